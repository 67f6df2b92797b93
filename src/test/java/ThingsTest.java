/** Promises 9 to 16: things, steps. */
public final class ThingsTest {
    private static final Dues d = new Dues();
    private static final int MIN = Integer.MIN_VALUE, MAX = Integer.MAX_VALUE;

    public static void main(String[] args) {
        promise09Thing();
        promise10Put();
        promise11Told();
        promise12Ways();
        promise12Kinds();
        promise12Fans();
        promise12Nets();
        promise12Refusals();
        promise13Run();
        promise14When();
        promise15Meet();
        promise16Inside();
        d.end();
    }

    private static void promise09Thing() {
        WhereTheSpoonWent x = new WhereTheSpoonWent();
        x.house(0, 5, 1);
        d.due("thing: kindMore 60", x.thing(60, 0, 0), -2);
        d.due("thing: kindMore -1", x.thing(-1, 0, 0), -2);
        d.due("thing: kindMore MAX", x.thing(MAX, 0, 0), -2);
        d.due("thing: cell 30", x.thing(0, 30, 0), -2);
        d.due("thing: cell -1", x.thing(0, -1, 0), -2);
        d.due("thing: a wall", x.thing(0, 5, 0), -2);
        d.due("thing: way 5", x.thing(0, 0, 5), -2);
        d.due("thing: way -1", x.thing(0, 0, -1), -2);
        d.due("thing: none came", x.count(0), 0);
        d.due("thing 0", x.thing(59, 29, 4), 0);
        d.due("thing 1", x.thing(0, 0, 0), 1);
        d.due("thing 2", x.thing(34, 0, 3), 2);
        d.due("thing 3", x.thing(10, 7, 2), 3);
        d.due("thing 4", x.thing(21, 8, 1), 4);
        d.due("thing FULL", x.thing(0, 0, 0), -4);
        d.due("thing BAD ahead of FULL", x.thing(0, 5, 0), -2);
        d.due("thing: five", x.count(0), 5);
    }

    private static void promise10Put() {
        WhereTheSpoonWent x = new WhereTheSpoonWent();
        d.due("put: no thing", x.put(0, 0, 0), -5);
        x.thing(7, 3, 1);
        x.house(0, 4, 1);
        d.due("put", x.put(0, 29, 4), 3);
        d.due("put: cell", x.told(0, 0), 29);
        d.due("put: way", x.told(0, 1), 4);
        d.due("put: way 5", x.put(0, 0, 5), -7);
        d.due("put: way -1", x.put(0, 0, -1), -7);
        d.due("put: wall", x.put(0, 4, 0), -7);
        d.due("put: cell 30", x.put(0, 30, 0), -7);
        d.due("put: cell -1", x.put(0, -1, 0), -7);
        d.due("put: thing ahead of the cell", x.put(1, 30, 0), -5);
        d.due("put: thing -1", x.put(-1, 0, 0), -5);
        d.due("put: thing MIN", x.put(MIN, 0, 0), -5);
        d.due("put: stays", x.put(0, 0, 0), 29);
    }

    private static void promise11Told() {
        WhereTheSpoonWent x = new WhereTheSpoonWent();
        x.thing(34, 12, 3);
        x.thing(58, 13, 0);
        int[] due = {12, 3, 3, 4, 13, 0, 5, 8};
        for (int i = 0; i < due.length; i++) {
            d.due("told " + i, x.told(i / 4, i % 4), due[i]);
        }
        d.due("told: what 4", x.told(0, 4), -7);
        d.due("told: what -1", x.told(0, -1), -7);
        d.due("told: thing ahead of what", x.told(2, 4), -5);
        d.due("told: thing -1", x.told(-1, 0), -5);
    }

    /** Of THING 0, BEHIND 0, 1, 2 .. STEPS: 10 times the CELL, and the WAY. */
    private static void goes(String what, WhereTheSpoonWent x, int... due) {
        for (int n = 0; n < due.length; n++) {
            d.due(what + ": cell behind " + n, x.at(n, 0, 0), due[n] / 10);
            d.due(what + ": way behind " + n, x.at(n, 0, 1), due[n] % 10);
        }
    }

    private static WhereTheSpoonWent with(int kindMore, int c, int goes) {
        WhereTheSpoonWent x = new WhereTheSpoonWent();
        d.due("a thing", x.thing(kindMore, c, goes), 0);
        return x;
    }

    private static void promise12Ways() {
        goes("up", with(0, 15, 0), 150, 90, 30, 32, 92, 152, 212, 272, 270, 210);
        goes("right", with(0, 15, 1), 151, 161, 171, 173, 163);
        goes("down", with(0, 15, 2), 152, 212, 272, 270);
        goes("left", with(0, 15, 3), 153, 143, 133, 123, 121);
        goes("still", with(0, 15, 4), 154, 154, 154);
        WhereTheSpoonWent x = with(0, 14, 1);
        x.house(0, 16, 1);
        x.house(0, 13, 1);
        goes("walls", x, 141, 151, 153, 143, 141, 151);
        d.due("in thought: the cell stays", x.told(0, 0), 14);
        d.due("in thought: THE STEP stays", x.count(4), 0);
        d.due("40 steps", with(0, 0, 1).at(40, 0, 0), 4);
    }

    private static void promise12Kinds() {
        goes("sticky", with(10, 4, 1), 41, 51, 54, 54);
        goes("screw", with(20, 0, 0), 0, 1, 11, 21, 31, 41, 51, 52, 112);
        goes("tear of more 0", with(30, 3, 1), 31, 41, 51, 54);
        goes("tear of more 1", with(31, 3, 1), 31, 41, 41, 51, 51, 54, 54);
        goes("tear of more 2", with(32, 3, 1), 31, 41, 41, 41, 51, 51, 51, 54);
        goes("tear of more 3", with(33, 3, 1), 31, 41, 51, 54);
        goes("tear of more 8", with(38, 3, 1), 31, 41, 41, 41, 51);
        goes("cat touches as a screw", with(40, 6, 3), 63, 60, 0, 1, 11);
        goes("heavy touches as a thing", with(50, 1, 3), 13, 3, 1, 11);
        WhereTheSpoonWent x = with(31, 3, 1);
        x.set(99);
        goes("a step behind 99", x, 31, 31, 41, 41, 51);
        x.set(1);
        goes("a step behind 1", x, 31, 31, 41, 41, 51);
    }

    private static WhereTheSpoonWent blown(int kindMore, int goes, String blows) {
        WhereTheSpoonWent x = with(kindMore, 14, goes);
        x.house(2, 14, 1);
        Dues.text(x, "blows " + blows + ";worth 0;hands 0;");
        x.force(1);
        return x;
    }

    private static void promise12Fans() {
        goes("thing, 0", blown(0, 2, "0"), 142, 80, 20);
        goes("thing, 4", blown(0, 2, "4"), 142, 202, 262);
        goes("thing, 4, still", blown(0, 4, "4"), 144, 144);
        goes("thing, 1, still", blown(0, 4, "1"), 144, 151, 161);
        goes("sticky, 3", blown(10, 1, "3"), 141, 133, 123, 124);
        goes("cat, 1", blown(47, 1, "1"), 141, 133, 123, 120);
        goes("cat, 0", blown(47, 4, "0"), 144, 202, 262);
        goes("cat, 2", blown(47, 1, "2"), 141, 80, 20);
        goes("cat, 3", blown(47, 0, "3"), 140, 151, 161);
        goes("cat, 4", blown(47, 1, "4"), 141, 151, 161);
        goes("cat, 4, still", blown(47, 4, "4"), 144, 144);
        goes("heavy, 0", blown(50, 1, "0"), 141, 151, 161);
        goes("heavy, 0, still", blown(50, 4, "0"), 144, 80, 20);
        goes("heavy, 4, still", blown(50, 4, "4"), 144, 144);
        goes("tear waits, but is blown", blown(32, 1, "step"), 141, 80, 80, 80, 20);
        goes("the law of TEXT 0 blows nothing", blown(0, 2, "9"), 142, 202);
        goes("by cell", blown(0, 2, "cell - 11"), 142, 133);
        goes("by more", blown(3, 2, "more"), 142, 133);
        WhereTheSpoonWent x = blown(0, 1, "step - 50");
        x.house(0, 13, 1);
        x.set(53);
        goes("by step, touching", x, 141, 141, 151);
        x = blown(0, 4, "(step = 101) * 3 + 4 * (step < 101)");
        x.set(99);
        goes("by a step behind 99", x, 144, 144, 144, 133);
        x = blown(0, 4, "thing");
        x.thing(0, 14, 4);
        d.due("by thing: 0", x.at(1, 0, 0), 8);
        d.due("by thing: 1", x.at(1, 1, 0), 15);
    }

    private static void promise12Nets() {
        WhereTheSpoonWent x = with(0, 13, 1);
        x.house(1, 14, 1);
        goes("a net", x, 131, 141, 144, 144);
        x.house(2, 14, 1);
        Dues.text(x, "blows 0;worth 0;hands 0;");
        x.force(1);
        goes("a net with a fan", x, 131, 141, 144, 144);
        x.house(1, 14, 0);
        goes("a fan without", x, 131, 141, 80);
        x = with(50, 14, 1);
        x.house(1, 14, 1);
        goes("a heavy one in a net", x, 141, 144);
    }

    private static void promise12Refusals() {
        WhereTheSpoonWent x = with(0, 0, 1);
        d.due("at: n 41", x.at(41, 0, 0), -5);
        d.due("at: n -1", x.at(-1, 0, 0), -5);
        d.due("at: n MAX", x.at(MAX, 0, 0), -5);
        d.due("at: thing", x.at(0, 1, 0), -5);
        d.due("at: thing -1", x.at(0, -1, 9), -5);
        d.due("at: what", x.at(0, 0, 2), -7);
        d.due("at: what -1", x.at(0, 0, -1), -7);
        d.due("at: n 40", x.at(40, 0, 1), 1);
    }

    private static void promise13Run() {
        WhereTheSpoonWent x = new WhereTheSpoonWent();
        d.due("run: an empty house", x.run(40), 0);
        d.due("run: THE STEP", x.count(4), 40);
        x.set(0);
        x.thing(0, 0, 1);
        x.thing(10, 11, 1);
        x.thing(31, 12, 1);
        x.thing(0, 29, 4);
        d.due("run(0)", x.run(0), 1);
        d.due("run(1)", x.run(1), 2);
        d.due("run: 0", x.told(0, 0), 1);
        d.due("run: 1", x.told(1, 1), 4);
        d.due("run: 2", x.told(2, 0), 13);
        d.due("run: THE STEP 1", x.count(4), 1);
        d.due("run(1) at 1", x.run(1), 2);
        d.due("run: 2 waits", x.told(2, 0), 13);
        d.due("run(3)", x.run(3), 2);
        d.due("run: 0 is at 5", x.told(0, 0), 5);
        d.due("run: 2 moved twice", x.told(2, 0), 15);
        d.due("run(41)", x.run(41), -2);
        d.due("run(-1)", x.run(-1), -2);
        d.due("run: THE STEP 5", x.count(4), 5);
        x.set(98);
        d.due("run over 99", x.run(3), 2);
        d.due("run: THE STEP 99", x.count(4), 99);
        d.due("run: 2 moved at 98, at 100", x.told(2, 0), 17);
        x.run(1);
        d.due("run: THE STEP stays 99", x.count(4), 99);
        d.due("run: kind as it was", x.told(2, 2), 3);
        x.thing(0, 0, 2);
        d.due("run: five", x.run(1), 2);
        d.due("run: the fifth", x.told(4, 0), 6);
    }

    private static void promise14When() {
        WhereTheSpoonWent x = with(0, 0, 1);
        x.house(0, 12, 1);
        d.due("when: here", x.when(0, 0), 0);
        d.due("when: 5", x.when(0, 5), 5);
        d.due("when: never", x.when(0, 6), -1);
        d.due("when: a wall", x.when(0, 12), -1);
        d.due("when: no thing ahead of the cell", x.when(1, 30), -5);
        d.due("when: thing -1", x.when(-1, 0), -5);
        d.due("when: cell", x.when(0, 30), -7);
        d.due("when: cell -1", x.when(0, -1), -7);
        x = with(32, 0, 1);
        d.due("when: a tear", x.when(0, 5), 13);
        x = with(22, 0, 1);
        d.due("when: a screw goes round", x.when(0, 6), 20);
        x = slow();
        d.due("when: behind 40", x.when(0, 4), 40);
        d.due("when: not behind 41", x.when(0, 5), -1);
    }

    /** A THING in 3 that a fan lets go to the right at step 39: it is in 4 BEHIND 40 STEPS. */
    private static WhereTheSpoonWent slow() {
        WhereTheSpoonWent x = with(2, 3, 4);
        x.house(2, 3, 1);
        Dues.text(x, "blows 4 - 3 * (38 < step) ;worth 0;hands 0;");
        x.force(1);
        return x;
    }

    private static void promise15Meet() {
        WhereTheSpoonWent x = new WhereTheSpoonWent();
        x.thing(0, 0, 1);
        x.thing(0, 4, 3);
        x.thing(0, 5, 3);
        x.thing(0, 0, 2);
        x.thing(0, 14, 4);
        d.due("meet: in the middle", x.meet(0, 1), 2);
        d.due("meet: the other way", x.meet(1, 0), 2);
        d.due("meet: pass by at first", x.meet(0, 2), -1);
        d.due("meet: at once", x.meet(0, 3), 0);
        d.due("meet: never", x.meet(0, 4), -1);
        d.due("meet: alike", x.meet(0, 0), -5);
        d.due("meet: none such", x.meet(0, 5), -5);
        d.due("meet: none such", x.meet(5, 0), -5);
        d.due("meet: below", x.meet(-1, 0), -5);
        d.due("meet: below", x.meet(0, -1), -5);
        x = slow();
        x.thing(0, 4, 4);
        d.due("meet: behind 40", x.meet(0, 1), 40);
        d.due("meet: behind 40", x.meet(1, 0), 40);
        x.put(1, 5, 4);
        d.due("meet: not behind 41", x.meet(1, 0), -1);
    }

    private static void promise16Inside() {
        WhereTheSpoonWent x = new WhereTheSpoonWent();
        d.due("inside: none", x.inside(0, 0), 0);
        x.thing(0, 0, 1);
        x.thing(0, 4, 3);
        x.thing(0, 2, 4);
        x.thing(0, 2, 0);
        x.thing(0, 8, 0);
        d.due("inside: now", x.inside(0, 2), 12);
        d.due("inside: behind 1", x.inside(1, 2), 4 + 8 + 16);
        d.due("inside: behind 2", x.inside(2, 2), 1 + 2 + 4 + 16);
        d.due("inside: n", x.inside(41, 30), -5);
        d.due("inside: n -1", x.inside(-1, 0), -5);
        d.due("inside: cell", x.inside(40, 30), -7);
        d.due("inside: cell -1", x.inside(0, -1), -7);
    }
}

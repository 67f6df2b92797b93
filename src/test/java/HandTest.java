/** Promises 17 to 23: a hand, throws, turning the house, nets. */
public final class HandTest {
    private static final Dues d = new Dues();
    private static final int MIN = Integer.MIN_VALUE, MAX = Integer.MAX_VALUE;

    public static void main(String[] args) {
        promise17Hand();
        promise17Hands();
        promise18First();
        promise19Wait();
        promise20Toss();
        promise21Key();
        promise22Turn();
        promise22LateTurn();
        promise23Net();
        d.end();
    }

    private static WhereTheSpoonWent with(int kindMore, int c, int goes) {
        WhereTheSpoonWent x = new WhereTheSpoonWent();
        d.due("a thing", x.thing(kindMore, c, goes), 0);
        return x;
    }

    private static void law(WhereTheSpoonWent x, String blows, String worth, String hands) {
        int t = Dues.text(x, "blows " + blows + ";worth " + worth + ";hands " + hands + ";");
        d.due("force", x.force(t) >= 0 ? 1 : 0, 1);
    }

    private static void promise17Hand() {
        WhereTheSpoonWent x = with(0, 29, 4);
        d.due("hand: there", x.hand(29, 0), 0);
        d.due("hand: beside", x.hand(28, 0), 1);
        d.due("hand: across", x.hand(0, 0), 9);
        d.due("hand: no cell ahead of the thing", x.hand(30, 9), -5);
        d.due("hand: cell -1", x.hand(-1, 0), -5);
        d.due("hand: thing", x.hand(0, 1), -5);
        d.due("hand: thing -1", x.hand(0, -1), -5);
        d.due("hand: thing MIN", x.hand(0, MIN), -5);
        x.house(0, 1, 1);
        d.due("hand: a wall", x.hand(1, 0), -5);
        d.due("hand: one way is open", x.hand(0, 0), 9);
        for (int c : new int[] {7, 8, 9, 10}) {
            x.house(0, c, 1);
        }
        d.due("hand: past the walls", x.hand(2, 0), 7);
        x.put(0, 14, 4);
        d.due("hand: round the walls", x.hand(2, 0), 8);
        x.put(0, 29, 4);
        x.house(0, 6, 1);
        d.due("hand: walled in", x.hand(0, 0), -1);
        x = with(0, 0, 4);
        d.due("hand: cell 0", x.hand(29, 0), 9);
        x = with(0, 0, 1);
        d.due("hand: it comes", x.hand(29, 0), 5);
        d.due("hand: it goes away", x.hand(0, 0), 0);
        d.due("hand: it goes away, and waits", x.hand(6, 0), 6);
        d.due("hand: it comes nearer", x.hand(17, 0), 4);
    }

    private static void promise17Hands() {
        WhereTheSpoonWent x = with(7, 14, 4);
        law(x, "4", "0", "0");
        d.due("hands 0", x.hand(13, 0), -1);
        d.due("hands 0, there", x.hand(14, 0), 0);
        law(x, "4", "0", "9");
        d.due("hands 9", x.hand(0, 0), 1);
        law(x, "4", "0", "2");
        d.due("hands 2, far 4", x.hand(0, 0), 2);
        d.due("hands 2, far 3", x.hand(1, 0), 2);
        d.due("hands 2, far 5", x.hand(29, 0), 3);
        law(x, "4", "0", "(cell = 1) + (step = 5) + (more = 7) + thing");
        d.due("hands: more", x.hand(0, 0), 4);
        d.due("hands: from's cell", x.hand(1, 0), 2);
        x.set(5);
        d.due("hands: THE STEP", x.hand(0, 0), 2);
        x.thing(7, 14, 4);
        d.due("hands: thing", x.hand(0, 1), 2);
        d.due("hands: thing", x.hand(1, 1), 1);
        x = with(0, 3, 4);
        x.house(2, 3, 1);
        law(x, "4 - 3 * (38 < step)", "0", "0");
        d.due("hand: behind 40", x.hand(4, 0), 40);
        d.due("hand: not behind 41", x.hand(5, 0), -1);
    }

    private static void promise18First() {
        WhereTheSpoonWent x = new WhereTheSpoonWent();
        d.due("first: none", x.first(0, 0), -1);
        d.due("first: none", x.first(0, 1), -1);
        x.thing(5, 29, 4);
        x.thing(1, 2, 4);
        x.thing(2, 12, 4);
        x.thing(7, 28, 4);
        d.due("first: soonest, the first of two", x.first(0, 0), 1);
        d.due("first: soonest", x.first(23, 0), 0);
        d.due("first: worth, all alike", x.first(0, 1), 0);
        law(x, "4", "more * (step < 50) + cell * (49 < step)", "1");
        d.due("first: worth by more", x.first(0, 1), 3);
        x.set(50);
        d.due("first: worth by cell", x.first(0, 1), 0);
        x.set(49);
        x.house(0, 27, 1);
        x.house(0, 22, 1);
        x.house(0, 23, 1);
        d.due("first: worth, of those it can have", x.first(0, 1), 2);
        law(x, "4", "0", "0");
        d.due("first: none it can have", x.first(0, 0), -1);
        d.due("first: none it can have", x.first(0, 1), -1);
        d.due("first: worth 0 is enough", x.first(12, 1), 2);
        d.due("first: cell, ahead of what", x.first(30, 2), -5);
        d.due("first: cell -1", x.first(-1, 0), -5);
        d.due("first: a wall", x.first(27, 0), -5);
        d.due("first: what", x.first(0, 2), -7);
        d.due("first: what -1", x.first(0, -1), -7);
        x = with(0, 0, 1);
        x.thing(0, 3, 4);
        law(x, "4", "cell", "1");
        d.due("first: worth of its cell now", x.first(8, 1), 1);
        x.put(1, 0, 4);
        d.due("first: worth of its cell now", x.first(8, 1), 0);
    }

    private static void promise19Wait() {
        WhereTheSpoonWent x = with(0, 14, 4);
        d.due("wait: beside", x.wait(0, 0), 8);
        d.due("wait: beside", x.wait(0, 1), 1);
        x.house(0, 8, 1);
        d.due("wait: no wall", x.wait(0, 0), 13);
        law(x, "4", "0", "9");
        d.due("wait: far hands", x.wait(0, 0), 0);
        d.due("wait: far hands", x.wait(0, 1), 1);
        law(x, "4", "0", "0");
        d.due("wait: from none", x.wait(0, 0), -1);
        d.due("wait: from none", x.wait(0, 1), -1);
        law(x, "4", "0", "2 * (cell = 29) + (cell = 0)");
        d.due("wait: hands by the cell", x.wait(0, 0), 29);
        d.due("wait: hands by the cell", x.wait(0, 1), 3);
        x.put(0, 29, 4);
        d.due("wait: not where it is", x.wait(0, 0), 0);
        d.due("wait: not where it is", x.wait(0, 1), 9);
        x.house(0, 1, 1);
        x.house(0, 6, 1);
        d.due("wait: walled in", x.wait(0, 0), -1);
        x.put(0, 0, 2);
        law(x, "4", "0", "9");
        d.due("wait: walled in", x.wait(0, 1), -1);
        x = with(0, 14, 1);
        law(x, "4", "0", "0");
        d.due("wait: where it comes", x.wait(0, 0), 15);
        d.due("wait: where it comes", x.wait(0, 1), 1);
        d.due("wait: thing ahead of what", x.wait(1, 2), -5);
        d.due("wait: thing -1", x.wait(-1, 0), -5);
        d.due("wait: what", x.wait(0, 2), -7);
        d.due("wait: what -1", x.wait(0, -1), -7);
    }

    private static void promise20Toss() {
        WhereTheSpoonWent x = with(0, 29, 4);
        int[] to = {14, 8, 16, 26, 12, 21};
        int[] way = {0, 0, 1, 2, 3, -1};
        int[] steps = {0, 1, 2, 2, 2, -1};
        for (int i = 0; i < to.length; i++) {
            d.due("toss: way to " + to[i], x.toss(0, 1400 + to[i], 0), way[i]);
            d.due("toss: steps to " + to[i], x.toss(0, 1400 + to[i], 1), steps[i]);
        }
        d.due("toss: in thought", x.told(0, 0), 29);
        d.due("toss: in thought", x.told(0, 1), 4);
        x.house(0, 15, 1);
        x.house(0, 12, 1);
        d.due("toss: the one a wall", x.toss(0, 1514, 0), -7);
        d.due("toss: the other a wall", x.toss(0, 1415, 0), -1);
        d.due("toss: the other a wall", x.toss(0, 1415, 1), -1);
        d.due("toss: off a wall", x.toss(0, 1413, 1), 1);
        d.due("toss: thing ahead of the cells", x.toss(1, 3000, 2), -5);
        d.due("toss: thing -1", x.toss(-1, 0, 0), -5);
        for (int cells : new int[] {3000, 30, 99, 1430, -1, -100, MIN, MAX}) {
            d.due("toss: cells " + cells, x.toss(0, cells, 0), -7);
        }
        d.due("toss: what", x.toss(0, 0, 2), -7);
        d.due("toss: what -1", x.toss(0, 0, -1), -7);
        d.due("toss: 2929", x.toss(0, 2929, 1), 0);
        d.due("toss: 0", x.toss(0, 0, 1), 0);
        x.house(2, 14, 1);
        law(x, "2", "0", "0");
        d.due("toss: of like ones the first", x.toss(0, 1420, 0), 0);
        d.due("toss: of like ones the first", x.toss(0, 1420, 1), 1);
        x = with(32, 0, 1);
        d.due("toss: a tear", x.toss(0, 1416, 1), 4);
        x.set(1);
        d.due("toss: a tear behind 1", x.toss(0, 1416, 1), 6);
        x = with(0, 3, 4);
        x.house(2, 3, 1);
        law(x, "4 * (step < 39) + (step = 39)", "0", "0");
        x.house(0, 2, 1);
        x.house(0, 9, 1);
        x.house(0, 4, 1);
        d.due("toss: behind 40 at most", x.toss(0, 309, 0), -1);
    }

    private static void promise21Key() {
        WhereTheSpoonWent x = new WhereTheSpoonWent();
        d.due("key: none", x.key(), 0);
        for (int way = 0; way < 5; way++) {
            x.thing(10 * way, 14, way);
        }
        d.due("key: four", x.key(), 4);
        int[] due = {1, 2, 3, 0, 4};
        for (int t = 0; t < 5; t++) {
            d.due("key: way of " + t, x.told(t, 1), due[t]);
            d.due("key: cell of " + t, x.told(t, 0), 14);
        }
        x.put(0, 14, 4);
        d.due("key: three", x.key(), 3);
        d.due("key: THE STEP", x.count(4), 0);
    }

    private static void promise22Turn() {
        WhereTheSpoonWent x = with(0, 0, 1);
        int[] cell = {0, 2, 14, 24, 29, 13};
        int[] when = {-1, -1, 2, 0, 5, 1};
        int[] then = {0, 2, 4, 4, 9, 3};
        for (int i = 0; i < cell.length; i++) {
            d.due("turn: when, for " + cell[i], x.turn(0, cell[i], 0), when[i]);
            d.due("turn: then, for " + cell[i], x.turn(0, cell[i], 1), then[i]);
        }
        d.due("turn: in thought", x.told(0, 1), 1);
        x.house(0, 14, 1);
        d.due("turn: a wall", x.turn(0, 14, 0), -1);
        d.due("turn: a wall", x.turn(0, 14, 1), -1);
        x = with(31, 0, 1);
        d.due("turn: of like ones the least", x.turn(0, 7, 0), 1);
        d.due("turn: of like ones the least", x.turn(0, 7, 1), 3);
        x = with(0, 0, 4);
        d.due("turn: still", x.turn(0, 1, 0), -1);
        d.due("turn: still", x.turn(0, 1, 1), -1);
        x = with(20, 0, 1);
        d.due("turn: a screw without, and with", x.turn(0, 6, 0), 0);
        d.due("turn: a screw without, and with", x.turn(0, 6, 1), 1);
        d.due("turn: thing ahead of the cell", x.turn(1, 30, 2), -5);
        d.due("turn: thing -1", x.turn(-1, 0, 0), -5);
        d.due("turn: cell", x.turn(0, 30, 0), -7);
        d.due("turn: cell -1", x.turn(0, -1, 0), -7);
        d.due("turn: what", x.turn(0, 0, 2), -7);
        d.due("turn: what -1", x.turn(0, 0, -1), -7);
    }

    /** A fan blows it at the ceiling till this step: turned sooner, it is blown there all the same. */
    private static WhereTheSpoonWent heldTill(int step) {
        WhereTheSpoonWent x = with(0, 3, 0);
        x.house(2, 3, 1);
        law(x, "4 * (" + (step - 1) + " < step)", "0", "0");
        return x;
    }

    private static void promise22LateTurn() {
        WhereTheSpoonWent x = heldTill(20);
        d.due("turn: behind 20", x.turn(0, 2, 0), 20);
        d.due("turn: behind 20", x.turn(0, 2, 1), 21);
        x = heldTill(21);
        d.due("turn: not behind 21", x.turn(0, 2, 0), -1);
        d.due("turn: not behind 21", x.turn(0, 2, 1), -1);
        d.due("turn: as without", x.turn(0, 9, 1), 22);
    }

    private static void promise23Net() {
        WhereTheSpoonWent x = new WhereTheSpoonWent();
        d.due("net: none", x.net(0, 0), -1);
        d.due("net: none", x.net(0, 1), 0);
        x.thing(0, 14, 4);
        x.thing(0, 12, 1);
        d.due("net: now, the first", x.net(0, 0), 12);
        d.due("net: now, one", x.net(0, 1), 1);
        d.due("net: behind 2", x.net(2, 0), 14);
        d.due("net: behind 2", x.net(2, 1), 2);
        d.due("net: it stays in it", x.net(9, 0), 14);
        d.due("net: in thought", x.count(2), 0);
        x.house(1, 14, 1);
        d.due("net: not more than now", x.net(2, 0), -1);
        d.due("net: as now", x.net(2, 1), 2);
        d.due("net: one more", x.net(0, 0), 12);
        d.due("net: one more", x.net(0, 1), 2);
        x.house(1, 14, 0);
        x.house(0, 13, 1);
        d.due("net: of two ways", x.net(2, 0), 12);
        d.due("net: of two ways", x.net(2, 1), 1);
        d.due("net: n", x.net(41, 0), -2);
        d.due("net: n -1", x.net(-1, 0), -2);
        d.due("net: what", x.net(0, 2), -2);
        d.due("net: what -1", x.net(0, -1), -2);
        d.due("net: n 40", x.net(40, 1), 1);
        x = with(0, 0, 1);
        x.house(1, 3, 1);
        d.due("net: a net that it has left out of", x.net(1, 0), 0);
        d.due("net: of nets ahead", x.net(3, 0), -1);
        d.due("net: of nets ahead", x.net(3, 1), 1);
    }
}

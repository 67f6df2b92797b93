import java.util.ArrayList;
import java.util.Arrays;
import java.util.List;

/** Sentences of promises 9 to 16: things, and their steps. */
final class EdgesOfThings {
    private static final String BLOWS_STEP = "text 'blows step;worth 0;hands 0;' = 1";
    private final Edges e;

    private EdgesOfThings(Edges e) {
        this.e = e;
    }

    static void tell(Edges e) {
        EdgesOfThings all = new EdgesOfThings(e);
        all.thing();
        all.thingRefused();
        all.put();
        all.told();
        all.at();
        all.ways();
        all.thingAndSticky();
        all.screwAndTear();
        all.catAndHeavy();
        all.nets();
        all.fans();
        all.touching();
        all.behind();
        all.run();
        all.runRefused();
        all.when();
        all.meet();
        all.inside();
    }

    private void thing() {
        e.test(9, "A THING (kindMore: 10 times KIND, and MORE",
            "thing(0, 14, 0) = 0", "told(0, 2..3) = 0", "thing(59, 14, 0) = 1", "told(1, 2) = 5", "told(1, 3) = 9",
            "thing(9, 14, 0) = 2", "told(2, 2) = 0", "told(2, 3) = 9", "thing(10, 14, 0) = 3", "told(3, 2) = 1",
            "told(3, 3) = 0", "thing(34, 14, 0) = 4", "told(4, 2) = 3", "told(4, 3) = 4");
        e.test(9, "its CELL",
            "thing(0, 0, 4) = 0", "thing(0, 29, 4) = 1", "thing(0, 29, 4) = 2", "house(1..2, 7, 1) = 0",
            "thing(0, 7, 4) = 3", "told(0, 0) = 0", "told(1..2, 0) = 29", "told(3, 0) = 7");
        e.test(9, "its WAY, 4 too)",
            "thing(0, 14, 0) = 0", "thing(0, 14, 1) = 1", "thing(0, 14, 2) = 2", "thing(0, 14, 3) = 3",
            "thing(0, 14, 4) = 4", "told(0, 1) = 0", "told(1, 1) = 1", "told(2, 1) = 2", "told(3, 1) = 3",
            "told(4, 1) = 4");
        e.test(9, "its number",
            "thing(0, 1, 0) = 0", "thing(0, 1, 0) = 1", "thing(0, 1, 0) = 2", "thing(0, 1, 0) = 3",
            "thing(0, 1, 0) = 4", "new", "thing(0, 1, 0) = 0", "image() = 1", "thing(0, 1, 0) = 1", "back() = 1",
            "thing(50, 2, 3) = 1", "told(1, 2) = 5");
        e.test(9, "THINGS are numbered from 0 on, 5 at most",
            "thing(0, 1, 0) = 0", "thing(11, 2, 0|1|2|3)", "count(0) = 5", "told(4, 1) = 3", "told(5, 0) = -5");
        e.test(9, "of a KIND, with MORE (0 .. 9), in a CELL that is no WALL, going a WAY",
            "thing(59, 29, 4) = 0", "told(0, 0) = 29", "told(0, 1) = 4", "told(0, 2) = 5", "told(0, 3) = 9");
    }

    private void thingRefused() {
        e.test(9, "BAD",
            "thing(-1|60|61|100|MIN|MAX, 0, 0) = BAD", "thing(0, -1|30|31|32|MIN|MAX, 0) = BAD",
            "thing(0, 0, -1|5|6|MIN|MAX) = BAD", "thing(60, 30, 5) = BAD", "count(0) = 0");
        e.test(9, "(a WALL is there, too)",
            "house(0, 0|29|14, 1) = 0", "thing(0, 0|29|14, 0) = BAD", "count(0) = 0", "house(0, 14, 0) = 1",
            "thing(0, 14, 0) = 0");
        e.test(9, "FULL", "thing(0, 1, 0..4)", "thing(0, 1, 0..4) = FULL", "thing(59, 29, 4) = FULL", "count(0) = 5");
        e.test(9, "REFUSALS, of several the first one told",
            "house(0, 5, 1) = 0", "thing(0, 1, 0..4)", "thing(60, 1, 0) = BAD", "thing(0, 30, 0) = BAD",
            "thing(0, 5, 0) = BAD", "thing(0, 1, 5) = BAD", "thing(0, 1, 0) = FULL");
        e.test(9, "They change nothing, but where it is told",
            "thing(0, 1, 0..3)", "thing(60, 1, 0) = BAD", "count(0) = 4", "thing(0, 30, 0) = BAD",
            "thing(0, 1, 5) = BAD", "count(0) = 4", "thing(23, 7, 1) = 4", "thing(0, 9, 0) = FULL", "told(4, 0) = 7",
            "told(4, 2) = 2", "told(0, 0) = 1");
    }

    private void put() {
        e.test(10, "A THING truly is in a CELL, going a WAY (4, too)",
            "thing(7, 3, 1) = 0", "thing(7, 3, 1) = 1", "put(0, 29, 4) = 3", "told(0, 0) = 29", "told(0, 1) = 4",
            "told(0, 3) = 7", "put(0, 0, 0) = 29", "told(0, 0..1) = 0", "put(0, 12, 3) = 0", "told(0, 0) = 12",
            "told(0, 1) = 3", "told(1, 0) = 3", "told(1, 1) = 1", "count(4) = 0");
        e.test(10, "going a WAY (4, too)",
            "house(1..2, 7, 1) = 0", "thing(0, 3, 1) = 0", "put(0, 7, 2) = 3", "told(0, 1) = 2", "thing(0, 7, 3) = 1",
            "told(1, 1) = 3", "put(1, 7, 4) = 7", "told(1, 1) = 4", "told(0, 1) = 2");
        e.test(10, "They change nothing, but where it is told",
            "thing(0, 3, 1) = 0", "house(0, 4, 1) = 0", "put(0, 30, 2) = -7", "put(0, 4, 2) = -7",
            "put(0, 9, 5) = -7", "put(1, 9, 2) = -5", "told(0, 0) = 3", "told(0, 1) = 1");
        e.test(10, "in which it was",
            "thing(0, 3, 1) = 0", "put(0, 3, 1) = 3", "put(0, 29, 1) = 3", "put(0, 0, 1) = 29", "put(0, 5, 1) = 0");
        e.test(10, "-5: no such THING",
            "put(0, 0, 0) = -5", "thing(0, 3, 1) = 0", "put(-1|1|4|5|MIN|MAX, 0, 0) = -5", "told(0, 0) = 3");
        e.test(10, "-7: CELL",
            "thing(0, 3, 1) = 0", "put(0, -1|30|31|32|MIN|MAX, 0) = -7", "told(0, 0) = 3", "told(0, 1) = 1");
        e.test(10, "(a WALL is there, too)",
            "thing(0, 3, 1) = 0", "house(0, 4|0|29, 1) = 0", "put(0, 4|0|29, 0) = -7", "told(0, 0) = 3",
            "told(0, 1) = 1", "house(0, 4, 0) = 1", "put(0, 4, 0) = 3");
        e.test(10, "WAY", "thing(0, 3, 1) = 0", "put(0, 9, -1|5|MIN|MAX) = -7", "told(0, 0) = 3", "told(0, 1) = 1");
        e.test(10, "REFUSALS, of several the first one told",
            "thing(0, 3, 1) = 0", "put(1, 30, 5) = -5", "put(-1, 30, 0) = -5", "put(1, 0, 5) = -5",
            "put(0, 30, 5) = -7");
    }

    private void told() {
        e.test(11, "Of a THING what 0 CELL",
            "thing(34, 12, 3) = 0", "told(0, 0) = 12", "put(0, 29, 3) = 12", "told(0, 0) = 29");
        e.test(11, "1 WAY",
            "thing(34, 12, 3) = 0", "told(0, 1) = 3", "key() = 1", "told(0, 1) = 0", "put(0, 12, 4) = 12",
            "told(0, 1) = 4");
        e.test(11, "2 KIND", "thing(0, 12, 3) = 0", "thing(59, 12, 3) = 1", "told(0, 2) = 0", "told(1, 2) = 5");
        e.test(11, "3 MORE", "thing(50, 12, 3) = 0", "thing(9, 12, 3) = 1", "told(0, 3) = 0", "told(1, 3) = 9");
        e.test(11, "-5: no such THING",
            "told(0, 0..3) = -5", "thing(0, 0, 0..4)", "told(4, 0) = 0", "told(-1|5|6|MIN|MAX, 0..3) = -5");
        e.test(11, "-7: what", "thing(0, 0, 0) = 0", "told(0, -1|4|5|MIN|MAX) = -7");
        e.test(11, "REFUSALS, of several the first one told", "told(0, 4) = -5", "told(-1, -1) = -5");
    }

    private void at() {
        e.test(12, "BEHIND n STEPS of a THING what 0 CELL",
            "thing(0, 0, 1) = 0", "thing(0, 24, 1) = 1", "at(0, 0, 0) = 0", "at(40, 0, 0) = 4", "at(39, 0, 0) = 3",
            "at(40, 1, 0) = 28");
        e.test(12, "1 WAY",
            "thing(0, 0, 1) = 0", "at(0, 0, 1) = 1", "at(40, 0, 1) = 1", "at(5, 0, 1) = 1", "at(6, 0, 1) = 3",
            "at(12, 0, 1) = 1");
        e.test(12, "-5: n", "thing(0, 0, 1) = 0", "at(-1|41|42|MIN|MAX, 0, 0|1) = -5");
        e.test(12, "no such THING", "at(0, 0, 0) = -5", "thing(0, 0, 1) = 0", "at(0|40, -1|1|5|MIN|MAX, 0|1) = -5");
        e.test(12, "-7: what", "thing(0, 0, 1) = 0", "at(0|40, 0, -1|2|MIN|MAX) = -7");
        e.test(12, "REFUSALS, of several the first one told",
            "thing(0, 0, 1) = 0", "at(41, 0, 2) = -5", "at(-1, 0, 2) = -5", "at(0, 1, 2) = -5", "at(0, -1, -1) = -5");
        e.test(12, "What is asked changes nothing, but where it is told",
            "thing(0, 0, 1) = 0", "at(40, 0, 0) = 4", "told(0, 0) = 0", "told(0, 1) = 1", "count(4) = 0",
            "at(1, 0, 0) = 1", "at(1, 0, 0) = 1");
    }

    private void ways() {
        e.test(12, "WAYS: 0 up (y 1 less), 1 right (x 1 more), 2 down, 3 left; 4 STILL",
            "thing(0, 14, 0..4)", "at(1, 0, 0) = 8", "at(1, 1, 0) = 15", "at(1, 2, 0) = 20", "at(1, 3, 0) = 13",
            "at(0..40, 4, 0) = 14", "at(0..40, 4, 1) = 4");
    }

    /** These rows behind such by which 14 lies between four WALLS. */
    private static String[] closedIn(String... rows) {
        return behind(new String[] {"house(0, 8|13|15|20, 1) = 0"}, rows);
    }

    /** These rows behind such by which 14 has a FAN: at step 0 it blows up, at 1 right, down, left, from 4 on 4. */
    private static String[] fan(String... rows) {
        return behind(new String[] {BLOWS_STEP, "force(1) = 0", "house(2, 14, 1) = 0"}, rows);
    }

    private static String[] behind(String[] first, String... rows) {
        List<String> all = new ArrayList<>(Arrays.asList(first));
        all.addAll(Arrays.asList(rows));
        return all.toArray(new String[0]);
    }

    private void thingAndSticky() {
        e.test(12,
            "KINDS: which WAY it goes on, TOUCHING, its WAY being w (0 .. 3); whether it MOVES at step n; which WAY it goes,"
            + " a FAN blowing b (0 .. 4), its WAY being w (0 .. 4)", closedIn("thing(0|10|20|30|50, 14, 4)",
            "at(0..9, 0..4, 0) = 14", "at(0..9, 0..4, 1) = 4", "new", BLOWS_STEP, "force(1) = 0",
            "house(2, 14, 1) = 0", "thing(0|10|20|30|50, 14, 4)", "at(1, 0..4, 0) = 8", "set(1) = 0",
            "at(1, 0..4, 0) = 15", "set(2) = 1", "at(1, 0..4, 0) = 20", "set(3) = 2", "at(1, 0..4, 0) = 13",
            "set(4) = 3", "at(1, 0..4, 0) = 14", "at(1, 0..4, 1) = 4"));
        e.test(12, "0 THING: (w and 2) modulo 4", closedIn("thing(0, 14, 0..3)", "path 0 = 14/0 14/2 14/0 14/2",
            "path 1 = 14/1 14/3 14/1", "path 2 = 14/2 14/0 14/2", "path 3 = 14/3 14/1 14/3"));
        e.test(12, "yes",
            "thing(8, 12, 1) = 0", "path 0 = 12/1 13/1 14/1 15/1", "set(1) = 0", "path 0 = 12/1 13/1 14/1 15/1");
        e.test(12, "w, if b is 4, else b", fan("thing(0, 14, 3) = 0", "path 0 = 14/3 8/0 2/0", "set(1) = 0",
            "path 0 = 14/3 15/1", "set(2) = 1", "path 0 = 14/3 20/2", "put(0, 14, 0) = 14", "set(3) = 2",
            "path 0 = 14/0 13/3", "set(4) = 3", "path 0 = 14/0 8/0", "put(0, 14, 4) = 14", "path 0 = 14/4 14/4",
            "set(1) = 4", "path 0 = 14/4 15/1 16/1"));
        e.test(12, "1 STICKY (a THING): STILL", closedIn("thing(10, 14, 0..3)", "path 0 = 14/0 14/4 14/4",
            "path 1 = 14/1 14/4 14/4", "path 2 = 14/2 14/4 14/4", "path 3 = 14/3 14/4 14/4"));
        e.test(12, "(Whatever isn't told is as of the KIND above.)", fan("thing(18, 14, 3) = 0",
            "path 0 = 14/3 8/0 2/0 2/4 2/4", "set(3) = 0", "put(0, 14, 1) = 14", "path 0 = 14/1 13/3 12/3",
            "set(4) = 3", "path 0 = 14/1 15/1 16/1 17/1 17/4", "put(0, 14, 4) = 14", "path 0 = 14/4 14/4",
            "set(2) = 4", "path 0 = 14/4 20/2 26/2 26/4"));
    }

    private void screwAndTear() {
        e.test(12, "2 SCREW (a THING): TOUCHING (w and 1) modulo 4", closedIn("thing(20, 14, 0..3)",
            "path 0 = 14/0 14/1 14/2 14/3 14/0 14/1", "path 1 = 14/1 14/2", "path 2 = 14/2 14/3",
            "path 3 = 14/3 14/0"));
        e.test(12, "(Whatever isn't told is as of the KIND above.)", fan("thing(28, 14, 3) = 0",
            "path 0 = 14/3 8/0 2/0 2/1 3/1", "set(1) = 0", "path 0 = 14/3 15/1 16/1", "set(4) = 1",
            "path 0 = 14/3 13/3 12/3 12/0 6/0", "put(0, 14, 4) = 14", "path 0 = 14/4 14/4", "set(3) = 4",
            "path 0 = 14/4 13/3"));
        e.test(12, "3 TEAR (a STICKY): MOVES, if n is without rest by (MORE modulo 3, and 1)",
            "thing(30, 12, 1) = 0", "thing(31, 12, 1) = 1", "thing(32, 12, 1) = 2", "thing(39, 12, 1) = 3",
            "thing(38, 12, 1) = 4", "path 0 = 12/1 13/1 14/1 15/1 16/1 17/1 17/4",
            "path 1 = 12/1 13/1 13/1 14/1 14/1 15/1", "path 2 = 12/1 13/1 13/1 13/1 14/1 14/1 14/1 15/1",
            "path 3 = 12/1 13/1 14/1", "path 4 = 12/1 13/1 13/1 13/1 14/1", "set(1) = 0", "path 0 = 12/1 13/1 14/1",
            "path 1 = 12/1 12/1 13/1 13/1", "path 2 = 12/1 12/1 12/1 13/1 13/1", "set(2) = 1",
            "path 1 = 12/1 13/1 13/1", "path 2 = 12/1 12/1 13/1 13/1 13/1", "new", "thing(33, 12, 1) = 0",
            "thing(34, 12, 1) = 1", "thing(35, 12, 1) = 2", "thing(36, 12, 1) = 3", "thing(37, 12, 1) = 4",
            "at(5, 0|3, 0) = 17", "at(5, 1|4, 0) = 15", "at(5, 2, 0) = 14");
        e.test(12, "(Whatever isn't told is as of the KIND above.)", fan("thing(31, 14, 3) = 0",
            "thing(31, 17, 1) = 1", "thing(32, 12, 0) = 2", "path 0 = 14/3 8/0 8/0 2/0 2/0 2/4", "set(1) = 0",
            "path 0 = 14/3 14/1 20/2 20/2 26/2", "path 1 = 17/1 17/1 17/4",
            "path 2 = 12/0 12/0 12/0 6/0 6/0 6/0 0/0 0/0 0/0 0/4", "put(0, 14, 4) = 14", "set(4) = 1",
            "path 0 = 14/4 14/4 14/4"));
    }

    private void catAndHeavy() {
        e.test(12, "4 CAT (a SCREW): blown (b and 2) modulo 4, if b is not 4", fan("thing(40, 14, 1) = 0",
            "path 0 = 14/1 20/2 26/2", "set(1) = 0", "path 0 = 14/1 13/3", "set(2) = 1", "path 0 = 14/1 8/0",
            "put(0, 14, 0) = 14", "set(3) = 2", "path 0 = 14/0 15/1", "set(4) = 3", "path 0 = 14/0 8/0",
            "put(0, 14, 4) = 14", "path 0 = 14/4 14/4", "set(0) = 4", "path 0 = 14/4 20/2"));
        e.test(12, "(Whatever isn't told is as of the KIND above.)", closedIn("thing(48, 14, 0..3)",
            "path 0 = 14/0 14/1 14/2 14/3 14/0", "path 1 = 14/1 14/2", "path 2 = 14/2 14/3", "path 3 = 14/3 14/0",
            "thing(42, 24, 1) = 4", "path 4 = 24/1 25/1 26/1 27/1", "set(1) = 0", "path 4 = 24/1 25/1 26/1 27/1"));
        e.test(12, "5 HEAVY (a THING): blown as a THING, if w is 4, else w", fan("thing(50, 14, 0..4)",
            "path 0 = 14/0 8/0", "path 1 = 14/1 15/1", "path 2 = 14/2 20/2", "path 3 = 14/3 13/3",
            "path 4 = 14/4 8/0 2/0", "set(2) = 0", "path 0 = 14/0 8/0", "path 1 = 14/1 15/1", "path 2 = 14/2 20/2",
            "path 3 = 14/3 13/3", "path 4 = 14/4 20/2", "set(3) = 2", "path 1 = 14/1 15/1", "path 4 = 14/4 13/3",
            "set(4) = 3", "path 1 = 14/1 15/1", "path 4 = 14/4 14/4 14/4"));
        e.test(12, "(Whatever isn't told is as of the KIND above.)", closedIn("thing(58, 14, 0..3)",
            "path 0 = 14/0 14/2 14/0", "path 1 = 14/1 14/3 14/1", "path 2 = 14/2 14/0", "path 3 = 14/3 14/1",
            "thing(52, 24, 1) = 4", "set(1) = 0", "path 4 = 24/1 25/1 26/1 27/1"));
    }

    private void nets() {
        e.test(12, "A STEP n of a THING: if its CELL has a NET, it is STILL, and that is all",
            "house(1, 14, 1) = 0", "thing(0, 14, 1) = 0", "thing(59, 14, 0) = 1", "thing(20, 14, 2) = 2",
            "thing(40, 13, 1) = 3", "thing(32, 14, 3) = 4", "path 0 = 14/1 14/4 14/4", "path 1 = 14/0 14/4",
            "path 2 = 14/2 14/4", "path 3 = 13/1 14/1 14/4 14/4", "set(1) = 0", "path 4 = 14/3 14/4", "run(1) = 4",
            "house(1, 14, 0) = 1", "path 0 = 14/4 14/4", "path 3 = 14/1 15/1");
        e.test(12, "if its CELL has a NET, it is STILL, and that is all", fan("house(1, 14, 1) = 0",
            "thing(0, 14, 1) = 0", "thing(50, 14, 4) = 1", "thing(40, 14, 4) = 2", "path 0 = 14/1 14/4 14/4",
            "path 1 = 14/4 14/4", "path 2 = 14/4 14/4", "house(1, 14, 0) = 1", "path 0 = 14/1 8/0",
            "path 1 = 14/4 8/0", "path 2 = 14/4 20/2"));
    }

    private void fans() {
        e.test(12, "If it has a FAN: it goes the WAY it is blown (blows: that CELL, step n)",
            "text 'blows cell-12;worth 0;hands 0;' = 1", "force(1) = 0", "house(2, 13..16, 1) = 0",
            "thing(0, 13, 4) = 0", "thing(0, 14, 4) = 1", "thing(0, 12, 1) = 2", "thing(0, 17, 4) = 3",
            "thing(0, 16, 2) = 4", "path 0 = 13/4 14/1 20/2 26/2", "path 1 = 14/4 20/2 26/2",
            "path 2 = 12/1 13/1 14/1 20/2", "path 3 = 17/4 17/4", "path 4 = 16/2 22/2", "new",
            "text 'blows step-50;worth 0;hands 0;' = 1", "force(1) = 0", "house(2, 0..29, 1) = 0",
            "thing(0, 14, 4) = 0", "set(50) = 0", "path 0 = 14/4 8/0 9/1 15/2 14/3 13/3 12/3 12/1 13/1");
        e.test(12, "of a THING: thing: its number; more: MORE; cell, x, y: the CELL as told; step: as told",
            "text 'blows thing;worth 0;hands 0;' = 1", "text 'blows more;worth 0;hands 0;' = 2",
            "text 'blows x;worth 0;hands 0;' = 3", "text 'blows y;worth 0;hands 0;' = 4", "house(2, 14|15, 1) = 0",
            "thing(3, 14, 4) = 0", "thing(9, 14, 4) = 1", "thing(0, 14, 4) = 2", "thing(1, 15, 4) = 3",
            "force(1) = 0", "at(1, 0, 0) = 8", "at(1, 1, 0) = 15", "at(1, 2, 0) = 20", "at(1, 3, 0) = 14",
            "force(2) = 1", "at(1, 0, 0) = 13", "at(1, 1, 0) = 14", "at(1, 2, 0) = 8", "at(1, 3, 0) = 16",
            "force(3) = 2", "at(1, 0..2, 0) = 20", "at(1, 3, 0) = 14", "force(4) = 3", "at(1, 0..2, 0) = 20",
            "at(1, 3, 0) = 21");
        e.test(12, "Then, if it isn't STILL, and MOVES at n: it goes into the CELL that WAY",
            fan("thing(0, 13, 4) = 0", "thing(31, 14, 0) = 1", "thing(30, 14, 4) = 2", "path 0 = 13/4 13/4 13/4",
            "set(1) = 0", "path 1 = 14/0 14/1 20/2 20/2 26/2", "path 2 = 14/4 15/1 16/1", "set(4) = 1",
            "path 2 = 14/4 14/4 14/4"));
        e.test(12, "THINGS don't touch each other",
            "thing(0, 12, 1) = 0", "thing(0, 13, 3) = 1", "thing(0, 14, 4) = 2", "thing(10, 15, 3) = 3",
            "thing(0, 15, 3) = 4", "path 0 = 12/1 13/1 14/1 15/1", "path 1 = 13/3 12/3 12/1 13/1",
            "path 2 = 14/4 14/4 14/4", "path 3 = 15/3 14/3 13/3", "path 4 = 15/3 14/3 13/3");
    }

    private void touching() {
        e.test(12, "if there is none",
            "thing(0, 0, 0) = 0", "thing(0, 0, 3) = 1", "thing(0, 29, 1) = 2", "thing(0, 29, 2) = 3",
            "path 0 = 0/0 0/2 6/2", "path 1 = 0/3 0/1 1/1", "path 2 = 29/1 29/3 28/3", "path 3 = 29/2 29/0 23/0",
            "new", "thing(0, 5, 1) = 0", "thing(0, 6, 3) = 1", "thing(0, 17, 1) = 2", "thing(0, 18, 3) = 3",
            "path 0 = 5/1 5/3 4/3", "path 1 = 6/3 6/1 7/1", "path 2 = 17/1 17/3 16/3", "path 3 = 18/3 18/1 19/1",
            "new", "thing(0, 3, 0) = 0", "thing(0, 27, 2) = 1", "path 0 = 3/0 3/2 9/2", "path 1 = 27/2 27/0 21/0");
        e.test(12, "or it has a WALL, it TOUCHES",
            "house(0, 15|0|29, 1) = 0", "thing(0, 14, 1) = 0", "thing(0, 1, 3) = 1", "thing(0, 23, 2) = 2",
            "thing(0, 6, 0) = 3", "path 0 = 14/1 14/3 13/3", "path 1 = 1/3 1/1 2/1", "path 2 = 23/2 23/0 17/0",
            "path 3 = 6/0 6/2 12/2", "house(0, 15, 0) = 1", "path 0 = 14/1 15/1");
        e.test(12, "it stays, and goes on another WAY from then on",
            "thing(0, 16, 1) = 0", "thing(20, 16, 1) = 1", "thing(10, 16, 1) = 2",
            "path 0 = 16/1 17/1 17/3 16/3 15/3", "path 1 = 16/1 17/1 17/2 23/2 29/2 29/3",
            "path 2 = 16/1 17/1 17/4 17/4", "run(2) = 1", "path 0 = 17/3 16/3");
    }

    private void behind() {
        e.test(12, "BEHIND k STEPS (0 .. 40), in thought",
            "thing(0, 0, 1) = 0", "at(0, 0, 0) = 0", "at(40, 0, 0) = 4", "at(41|-1, 0, 0) = -5", "told(0, 0) = 0",
            "told(0, 1) = 1", "count(4) = 0");
        e.test(12, "behind STEPS THE STEP, and 1 more each time, k of them",
            "text 'blows step-98;worth 0;hands 0;' = 1", "force(1) = 0", "house(2, 0..29, 1) = 0",
            "thing(0, 14, 4) = 0", "set(98) = 0", "path 0 = 14/4 8/0 9/1 15/2 14/3 13/3", "set(97) = 98",
            "path 0 = 14/4 8/0 2/0 3/1", "set(99) = 97", "path 0 = 14/4 15/1 21/2 20/3");
    }

    private void run() {
        e.test(13, "n STEPS (0 .. 40) truly pass for all",
            "thing(0, 0, 1) = 0", "thing(0, 29, 3) = 1", "thing(10, 14, 2) = 2", "thing(20, 0, 0) = 3",
            "thing(31, 12, 1) = 4", "run(0) = 0", "told(0, 0) = 0", "told(3, 1) = 0", "run(40) = 2", "told(0, 0) = 4",
            "told(0, 1) = 1", "told(1, 0) = 25", "told(1, 1) = 3", "told(2, 0) = 26", "told(2, 1) = 4",
            "told(3, 0) = 24", "told(3, 1) = 0", "told(4, 0) = 17", "told(4, 1) = 4", "count(4) = 40", "run(1) = 2",
            "told(0, 0) = 5", "told(3, 0) = 18");
        e.test(13, "THE STEP is n more",
            "run(0) = 0", "count(4) = 0", "run(1) = 0", "count(4) = 1", "run(40) = 0", "count(4) = 41", "set(3) = 41",
            "run(5) = 0", "count(4) = 8");
        e.test(13, "(99 at most)",
            "set(59) = 0", "run(40) = 0", "count(4) = 99", "run(1) = 0", "count(4) = 99", "set(60) = 99",
            "run(40) = 0", "count(4) = 99", "set(98) = 99", "run(1) = 0", "count(4) = 99", "set(98) = 99",
            "run(0) = 0", "count(4) = 98");
        e.test(13, "how many are STILL",
            "run(5) = 0", "thing(0, 14, 4) = 0", "run(0) = 1", "thing(0, 16, 1) = 1", "house(1, 17, 1) = 0",
            "run(0|1) = 1", "told(1, 0) = 17", "told(1, 1) = 1", "run(1) = 2", "thing(10, 0, 0) = 2", "run(0) = 2",
            "run(1) = 3", "thing(0, 1, 2) = 3", "thing(0, 2, 4) = 4", "run(3) = 4", "new", BLOWS_STEP, "force(1) = 0",
            "house(2, 14, 1) = 0", "thing(0, 14, 4) = 0", "run(0) = 1", "run(1) = 0", "told(0, 0) = 8");
    }

    private void runRefused() {
        e.test(13, "They change nothing, but where it is told",
            "thing(0, 0, 1) = 0", "set(9) = 0", "run(41) = BAD", "run(-1) = BAD", "told(0, 0) = 0", "count(4) = 9",
            "run(1) = 0", "told(0, 0) = 1", "count(4) = 10");
        e.test(13, "BAD",
            "thing(0, 0, 1) = 0", "set(9) = 0", "run(-1|41|42|MIN|MAX) = BAD", "told(0, 0) = 0", "told(0, 1) = 1",
            "count(4) = 9");
    }

    /** These rows behind such by which THING 0 stays in 3 till step 38: in 4 it is BEHIND 40 STEPS, in 5 BEHIND 41. */
    private static String[] late(String... rows) {
        return behind(new String[] {"text 'blows 4-3*(38<step);worth 0;hands 0;' = 1", "force(1) = 0",
            "house(2, 3, 1) = 0", "thing(0, 3, 4) = 0"}, rows);
    }

    private void when() {
        e.test(14, "BEHIND how many STEPS a THING is in a CELL first (0 .. 40)", late("when(0, 3) = 0",
            "when(0, 4) = 40", "set(1) = 0", "when(0, 4) = 39", "when(0, 5) = 40", "new", "thing(0, 1, 1) = 0",
            "when(0, 5) = 4", "when(0, 0) = 10", "when(0, 1) = 0", "when(0, 2) = 1"));
        e.test(14, "-1: none", late("when(0, 5) = -1", "when(0, 29) = -1", "new", "thing(0, 0, 1) = 0",
            "when(0, 6) = -1", "house(0, 3, 1) = 0", "when(0, 3|4|5) = -1", "when(0, 2) = 2"));
        e.test(14, "-5: no such THING", "when(0, 0) = -5", "thing(0, 0, 1) = 0", "when(-1|1|5|MIN|MAX, 0) = -5");
        e.test(14, "-7: no such CELL", "thing(0, 0, 1) = 0", "when(0, -1|30|MIN|MAX) = -7", "when(0, 29) = -1");
        e.test(14, "What is asked changes nothing, but where it is told",
            "thing(0, 0, 1) = 0", "thing(0, 29, 3) = 1", "when(0, 5) = 5", "when(1, 24) = 5", "when(0, 24) = -1",
            "when(1, 5) = -1", "when(0, 5) = 5", "told(0, 0) = 0", "told(1, 0) = 29", "count(4) = 0");
        e.test(14, "REFUSALS, of several the first one told",
            "thing(0, 0, 1) = 0", "when(1, 30) = -5", "when(-1, -1) = -5");
    }

    private void meet() {
        e.test(15, "BEHIND how many STEPS two are in one CELL first (0 .. 40)", late("thing(0, 4, 4) = 1",
            "meet(0, 1) = 40", "meet(1, 0) = 40", "thing(0, 3, 2) = 2", "meet(0, 2) = 0", "meet(2, 0) = 0", "new",
            "thing(0, 12, 1) = 0", "thing(0, 16, 3) = 1", "meet(0, 1) = 2", "meet(1, 0) = 2", "thing(0, 2, 2) = 2",
            "meet(2, 0) = 2", "thing(0, 17, 4) = 3", "meet(3, 0) = 5", "meet(1, 3) = 10", "thing(0, 17, 4) = 4",
            "meet(3, 4) = 0"));
        e.test(15, "What is asked changes nothing, but where it is told",
            "thing(0, 0, 1) = 0", "thing(0, 4, 3) = 1", "thing(0, 27, 0) = 2", "meet(0, 1) = 2", "meet(0, 2) = 15",
            "meet(1, 2) = 25", "meet(0, 1) = 2", "meet(1, 0) = 2", "told(0, 0) = 0", "told(1, 0) = 4",
            "told(2, 1) = 0", "count(4) = 0");
        e.test(15, "-1: none", late("thing(0, 5, 4) = 1", "meet(0, 1) = -1", "meet(1, 0) = -1", "new",
            "thing(0, 12, 1) = 0", "thing(0, 15, 3) = 1", "thing(0, 0, 4) = 2", "meet(0, 1) = -1",
            "meet(0..1, 2) = -1", "meet(2, 0..1) = -1"));
        e.test(15, "-5: no such two",
            "meet(0, 1) = -5", "thing(0, 0, 1) = 0", "meet(0, -1|1|MIN|MAX) = -5", "meet(-1|1|MIN|MAX, 0) = -5",
            "thing(0, 0, 1) = 1", "meet(0|1, 2|5|-1) = -5", "meet(2|5|-1, 0|1) = -5", "meet(0, 1) = 0");
        e.test(15, "(alike, too)",
            "meet(0, 0) = -5", "thing(0, 0, 1) = 0", "meet(0, 0) = -5", "thing(0, 0, 1|2|3|4)", "meet(4, 4) = -5",
            "meet(3, 4) = 0");
    }

    private void inside() {
        e.test(16, "THINGS (bits) that are in a CELL BEHIND n STEPS",
            "inside(0|40, 0) = 0", "thing(0, 0, 1) = 0", "thing(0, 4, 3) = 1", "thing(0, 2, 4) = 2",
            "thing(10, 2, 0) = 3", "thing(0, 8, 0) = 4", "inside(0, 2) = bits(2 3)", "inside(1, 2) = bits(2 3 4)",
            "inside(2, 2) = bits(0 1 2 3 4)", "inside(3, 2) = bits(2 3)", "inside(40, 4) = bits(0)",
            "inside(40, 2) = bits(2 3)", "inside(40, 1) = 0", "inside(0, 29) = 0");
        e.test(16, "What is asked changes nothing, but where it is told",
            "thing(0, 0, 1) = 0", "thing(0, 4, 3) = 1", "inside(2, 2) = 3", "inside(2, 2) = 3",
            "inside(0, 0) = bits(0)", "told(0, 0) = 0", "told(1, 0) = 4", "count(4) = 0");
        e.test(16, "-5: n", "inside(-1|41|MIN|MAX, 0|29) = -5");
        e.test(16, "-7: no such CELL", "inside(0|40, -1|30|MIN|MAX) = -7");
        e.test(16, "REFUSALS, of several the first one told", "inside(41, 30) = -5", "inside(-1, -1) = -5");
    }
}

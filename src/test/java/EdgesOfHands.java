import java.util.ArrayList;
import java.util.Arrays;
import java.util.List;

/** Sentences of promises 17 to 23: a hand, throws, turning the house, nets. */
final class EdgesOfHands {
    private final Edges e;

    private EdgesOfHands(Edges e) {
        this.e = e;
    }

    static void tell(Edges e) {
        EdgesOfHands all = new EdgesOfHands(e);
        all.hand();
        all.far();
        all.soonest();
        all.handRefused();
        all.first();
        all.firstRefused();
        all.waiting();
        all.waitRefused();
        all.toss();
        all.tossRefused();
        all.key();
        all.turn();
        all.turnRefused();
        all.net();
        all.netRefused();
    }

    /** These rows behind such by which a text is THE LAW. */
    private static String[] law(String text, String... rows) {
        List<String> all = new ArrayList<>(Arrays.asList("text '" + text + "' = 1", "force(1) = 0"));
        all.addAll(Arrays.asList(rows));
        return all.toArray(new String[0]);
    }

    private void hand() {
        e.test(17, "SOONEST of a HAND from a CELL",
            "thing(0, 14, 4) = 0", "hand(14, 0) = 0", "hand(13, 0) = 1", "hand(0, 0) = 4", "hand(29, 0) = 5",
            "hand(5, 0) = 5", "thing(0, 0, 1) = 1", "hand(29, 1) = 5", "hand(17, 1) = 4", "hand(0, 1) = 0",
            "hand(5, 1) = 3");
        e.test(17, "-1: it can't",
            "thing(0, 29, 4) = 0", "house(0, 1|6, 1) = 0", "hand(0, 0) = -1", "hand(2, 0) = 7", "house(0, 6, 0) = 1",
            "hand(0, 0) = 9", "new", "house(0, 23|28, 1) = 0", "thing(0, 29, 4) = 0", "hand(0..22|24..27, 0) = -1",
            "hand(29, 0) = 0");
    }

    private void far() {
        e.test(17, "FAR are the fewest CELLS from there, up, right, down, left, through no WALL",
            "thing(0, 14, 4) = 0", "hand(8|13|15|20, 0) = 1", "hand(7|9|19|21|2|12|16|26, 0) = 2",
            "put(0, 11, 4) = 14", "hand(12, 0) = 6", "put(0, 5, 4) = 11", "hand(6, 0) = 6", "put(0, 24, 4) = 5",
            "hand(23, 0) = 6", "hand(5, 0) = 9", "put(0, 14, 4) = 24", "house(0, 8, 1) = 0", "hand(2, 0) = 4",
            "house(0, 7|9, 1) = 0", "hand(2, 0) = 6", "house(0, 6, 1) = 0", "hand(2, 0) = 6", "house(0, 10, 1) = 0",
            "hand(2, 0) = 8", "house(0, 11, 1) = 0", "hand(2, 0) = -1");
        e.test(17, "through no WALL",
            "house(1..2, 8|13|15|20, 1) = 0", "thing(0, 14, 4) = 0", "thing(0, 8, 4) = 1", "hand(2, 0) = 2",
            "hand(29, 0) = 5", "hand(13, 0) = 1");
        e.test(17, "through no WALL",
            "house(0, 6..10, 1) = 0", "house(0, 19..23, 1) = 0", "thing(0, 0, 4) = 0", "hand(29, 0) = 19",
            "hand(12, 0) = 12", "hand(17, 0) = 7", "hand(11, 0) = 6");
    }

    private void soonest() {
        e.test(17, "It can HAVE a THING BEHIND k STEPS, if that is in a CELL then that is FAR k times hands", law(
            "blows 4;worth 0;hands 2;", "thing(0, 14, 4) = 0", "hand(14, 0) = 0", "hand(13, 0) = 1", "hand(7, 0) = 1",
            "hand(1, 0) = 2", "hand(0, 0) = 2", "hand(29, 0) = 3", "put(0, 0, 1) = 14", "hand(29, 0) = 3",
            "hand(23, 0) = 3", "hand(8, 0) = 1"));
        e.test(17, "or less", law("blows 4;worth 0;hands 9;", "thing(0, 0, 4) = 0", "hand(29, 0) = 1",
            "hand(0, 0) = 0", "hand(1, 0) = 1"));
        e.test(17, "or less", law("blows 4;worth 0;hands 0;", "thing(0, 14, 4) = 0", "hand(14, 0) = 0",
            "hand(13|15|8, 0) = -1", "put(0, 12, 1) = 14", "hand(15, 0) = 3", "hand(6, 0) = -1"));
        e.test(17, "(from's CELL; THE STEP)", law("blows 4;worth 0;hands (cell=1)+(step=5)+thing+more;",
            "thing(0, 14, 4) = 0", "thing(1, 14, 4) = 1", "hand(0, 0) = -1", "hand(1, 0) = 3", "hand(0, 1) = 2",
            "hand(1, 1) = 1", "set(5) = 0", "hand(0, 0) = 4", "hand(1, 0) = 2", "set(4) = 5", "hand(0, 0) = -1",
            "set(6) = 4", "hand(0, 0) = -1", "put(0, 1, 4) = 14", "hand(0, 0) = -1"));
        e.test(17, "SOONEST: the least k; none in 40: it can't", late("hand(4, 0) = 40", "hand(5, 0) = -1",
            "hand(3, 0) = 0", "set(1) = 0", "hand(4, 0) = 39", "hand(5, 0) = 40", "thing(0, 0, 1) = 1",
            "hand(2, 1) = 2", "hand(5, 1) = 5", "hand(0, 1) = 0"));
    }

    /** By hands 0, THING 0 stays in 3 till step 38: in 4 it is BEHIND 40 STEPS, in 5 BEHIND 41. */
    private static String[] late(String... rows) {
        List<String> all = new ArrayList<>(Arrays.asList("house(2, 3, 1) = 0", "thing(0, 3, 4) = 0"));
        all.addAll(Arrays.asList(rows));
        return law("blows 4-3*(38<step);worth 0;hands 0;", all.toArray(new String[0]));
    }

    private void handRefused() {
        e.test(17, "-5: no such CELL", "thing(0, 0, 4) = 0", "hand(-1|30|31|32|MIN|MAX, 0) = -5");
        e.test(17, "(a WALL, too)",
            "thing(0, 0, 4) = 0", "house(0, 1|29, 1) = 0", "hand(1|29, 0) = -5", "house(0, 29, 0) = 1",
            "hand(29, 0) = 9");
        e.test(17, "A HAND from a CELL that is no WALL",
            "thing(0, 0, 4) = 0", "house(0, 14, 1) = 0", "hand(14, 0) = -5", "first(14, 0..1) = -5",
            "hand(13, 0) = 3");
        e.test(17, "THING",
            "hand(0, 0) = -5", "thing(0, 0, 4) = 0", "hand(0, -1|1|5|MIN|MAX) = -5", "hand(30, 1) = -5");
        e.test(17, "What is asked changes nothing, but where it is told",
            "thing(0, 14, 4) = 0", "thing(0, 0, 1) = 1", "hand(29, 0) = 5", "hand(29, 1) = 5", "hand(0, 0) = 4",
            "hand(0, 1) = 0", "hand(29, 0) = 5", "told(1, 0) = 0", "count(4) = 0");
        e.test(17, "(a -1 that is an answer comes behind the refusal of a number)",
            "thing(0, 29, 4) = 0", "house(0, 1|6, 1) = 0", "hand(0, 0) = -1", "hand(0, 1) = -5");
    }

    private void first() {
        e.test(18, "Of THINGS that a HAND from a CELL can HAVE that of the least SOONEST (what 0)",
            "thing(0, 29, 4) = 0", "thing(0, 14, 4) = 1", "thing(0, 3, 4) = 2", "first(0, 0) = 2", "first(20, 0) = 1",
            "first(29, 0) = 0", "thing(0, 6, 0) = 3", "first(0, 0) = 3", "house(0, 1|7|12, 1) = 0", "first(2, 0) = 2",
            "first(0, 0) = 3", "put(3, 18, 4) = 6", "first(6, 0) = -1");
        e.test(18, "of most worth (1: its CELL now, THE STEP)",
            law("blows 4;worth cell*(step<50)+(30-cell)*(49<step);hands 1;", "thing(0, 3, 4) = 0",
            "thing(0, 28, 1) = 1", "thing(0, 27, 4) = 2", "first(0, 1) = 1", "first(27, 1) = 1", "set(50) = 0",
            "first(0, 1) = 0", "set(49) = 50", "first(29, 1) = 1", "put(1, 26, 1) = 28", "first(0, 1) = 2"));
        e.test(18, "that a HAND from a CELL can HAVE", law("blows 4;worth cell;hands 1;", "thing(0, 3, 4) = 0",
            "thing(0, 29, 4) = 1", "house(0, 23|28, 1) = 0", "first(0, 1) = 0", "first(29, 1) = 1",
            "put(0, 0, 4) = 3", "first(1, 1) = 0"));
        e.test(18, "of like ones the first",
            "thing(0, 29, 4) = 0", "thing(0, 2, 4) = 1", "thing(9, 12, 4) = 2", "thing(0, 2, 4) = 3",
            "first(0, 0) = 1", "first(0, 1) = 0", "first(29, 0..1) = 0", "put(0, 0, 4) = 29", "put(1, 0, 4) = 2",
            "first(0, 0..1) = 0");
        e.test(18, "-1: none",
            "first(0, 0..1) = -1", "thing(0, 29, 4) = 0", "house(0, 1|6, 1) = 0", "first(0, 0..1) = -1",
            "first(29, 0..1) = 0");
        e.test(18, "of most worth", law("blows 4;worth 0;hands 0;", "thing(0, 29, 4) = 0", "thing(0, 12, 4) = 1",
            "first(12, 1) = 1", "first(12, 0) = 1", "first(13, 0..1) = -1"));
    }

    private void firstRefused() {
        e.test(18, "What is asked changes nothing, but where it is told",
            "thing(0, 14, 4) = 0", "thing(0, 0, 1) = 1", "first(29, 0) = 0", "first(1, 0) = 1", "first(29, 0..1) = 0",
            "told(1, 0) = 0", "told(1, 1) = 1", "count(4) = 0");
        e.test(18, "-5: CELL", "thing(0, 0, 4) = 0", "first(-1|30|31|32|MIN|MAX, 0|1) = -5");
        e.test(18, "(a WALL, too)", "thing(0, 0, 4) = 0", "house(0, 29|1, 1) = 0", "first(29|1, 0|1) = -5");
        e.test(18, "-7: what", "thing(0, 0, 4) = 0", "first(0|29, -1|2|MIN|MAX) = -7");
        e.test(18, "REFUSALS, of several the first one told",
            "first(30, 2) = -5", "house(0, 3, 1) = 0", "first(3, 2) = -5");
        e.test(18, "(a -1 that is an answer comes behind the refusal of a number)",
            "first(0, 2) = -7", "first(0, -1) = -7", "first(0, 0) = -1");
    }

    private void waiting() {
        e.test(19, "The CELL (no WALL",
            "thing(0, 14, 4) = 0", "wait(0, 0) = 8", "house(0, 8, 1) = 0", "wait(0, 0) = 13", "house(0, 13, 1) = 0",
            "wait(0, 0) = 15", "house(0, 15, 1) = 0", "wait(0, 0) = 20", "wait(0, 1) = 1", "house(0, 20, 1) = 0",
            "wait(0, 0..1) = -1");
        e.test(19, "not where the THING is now)", law("blows 4;worth 0;hands 0;", "thing(0, 14, 1) = 0",
            "wait(0, 0) = 15", "wait(0, 1) = 1", "put(0, 0, 0) = 14", "wait(0, 0) = 6", "wait(0, 1) = 2",
            "put(0, 29, 4) = 0", "wait(0, 0..1) = -1"));
        e.test(19, "not where the THING is now)",
            "thing(0, 14, 4) = 0", "thing(0, 8, 4) = 1", "wait(0, 0) = 8", "wait(1, 0) = 2", "put(0, 8, 4) = 14",
            "wait(0, 0) = 2");
        e.test(19, "What is asked changes nothing, but where it is told",
            "thing(0, 14, 4) = 0", "thing(0, 0, 1) = 1", "wait(0, 0) = 8", "wait(1, 0) = 1", "wait(0, 0) = 8",
            "wait(0|1, 1) = 1", "told(0, 0) = 14", "told(1, 0) = 0", "count(4) = 0");
        e.test(19, "from which SOONEST of a HAND is least", law("blows 4;worth 0;hands 2*(cell=29)+(cell=0);",
            "thing(0, 14, 4) = 0", "wait(0, 0) = 29", "wait(0, 1) = 3", "put(0, 29, 4) = 14", "wait(0, 0) = 0",
            "wait(0, 1) = 9", "put(0, 0, 4) = 29", "wait(0, 0) = 29", "wait(0, 1) = 5"));
        e.test(19, "of like ones the first (what 0", law("blows 4;worth 0;hands 9;", "thing(0, 14, 4) = 0",
            "wait(0, 0) = 0", "wait(0, 1) = 1", "put(0, 0, 4) = 14", "wait(0, 0) = 1"));
        e.test(19, "-1: from none)", law("blows 4;worth 0;hands 0;", "thing(0, 14, 4) = 0", "wait(0, 0) = -1",
            "put(0, 0, 2) = 14", "house(0, 1|6, 1) = 0", "wait(0, 0) = -1", "house(0, 6, 0) = 1", "wait(0, 0) = 6"));
        e.test(19, "that (1; -1)", late("wait(0, 1) = 40", "wait(0, 0) = 4", "house(0, 4, 1) = 0",
            "wait(0, 0..1) = -1"));
    }

    private void waitRefused() {
        e.test(19, "-5: no such THING", "wait(0, 0) = -5", "thing(0, 0, 4) = 0", "wait(-1|1|5|MIN|MAX, 0|1) = -5");
        e.test(19, "-7: what", "thing(0, 0, 4) = 0", "wait(0, -1|2|MIN|MAX) = -7");
        e.test(19, "REFUSALS, of several the first one told", "wait(0, 2) = -5", "wait(-1, -1) = -5");
        e.test(19, "(a -1 that is an answer comes behind the refusal of a number)",
            "thing(0, 0, 4) = 0", "house(0, 1|6, 1) = 0", "wait(0, 0..1) = -1", "wait(0, 2) = -7");
    }

    private void toss() {
        e.test(20, "The WAY (0 .. 3) by which a THING, were it in a CELL, going so, would be in another CELL",
            "thing(0, 29, 4) = 0", "toss(0, 1408, 0) = 0", "toss(0, 1416, 0) = 1", "toss(0, 1426, 0) = 2",
            "toss(0, 1412, 0) = 3", "toss(0, 1421, 0..1) = -1", "told(0, 0) = 29", "told(0, 1) = 4", "new",
            "thing(31, 29, 4) = 0", "set(1) = 0", "toss(0, 1416, 0) = 1", "toss(0, 1416, 1) = 4");
        e.test(20, "The WAY (0 .. 3) by which",
            law("blows 4*(step=0)+4*(step=1)*(cell=8)+3*(step=2);worth 0;hands 0;", "house(2, 8|14, 1) = 0",
            "thing(0, 14, 4) = 0", "when(0, 7) = 3", "toss(0, 1407, 0..1) = -1"));
        e.test(20, "What is asked changes nothing, but where it is told",
            "thing(0, 0, 1) = 0", "thing(0, 29, 4) = 1", "toss(0, 1416, 0) = 1", "toss(1, 1412, 0) = 3",
            "toss(0, 1416, 0) = 1", "told(0, 0) = 0", "told(0, 1) = 1", "told(1, 1) = 4", "when(0, 2) = 2");
        e.test(20, "(fromTo: 100 times the one, and the other",
            "thing(0, 14, 4) = 0", "toss(0, 1, 0) = 1", "toss(0, 100, 0) = 3", "toss(0, 2928, 0) = 3",
            "toss(0, 2829, 0) = 1", "toss(0, 2928|2829|1|100, 1) = 1", "toss(0, 5, 1) = 5");
        e.test(20, "alike, too)",
            "thing(0, 14, 4) = 0", "toss(0, 0|1414|2929, 0..1) = 0", "house(1, 14, 1) = 0",
            "toss(0, 1414, 0..1) = 0");
        e.test(20, "behind fewest STEPS (40 at most)", law("blows 38<step;worth 0;hands 0;", "house(2, 0, 1) = 0",
            "thing(0, 29, 4) = 0", "toss(0, 1, 0) = 0", "toss(0, 1, 1) = 40", "toss(0, 2, 0..1) = -1", "set(1) = 0",
            "toss(0, 1, 1) = 39", "toss(0, 2, 1) = 40", "new", "thing(0, 29, 4) = 0", "toss(0, 511, 0) = 2",
            "toss(0, 511, 1) = 1", "toss(0, 504, 0) = 3", "toss(0, 504, 1) = 1", "house(0, 11, 1) = 0",
            "toss(0, 504, 0) = 3"));
        e.test(20, "of like ones the first (what 0", law("blows 2;worth 0;hands 0;", "house(2, 14, 1) = 0",
            "thing(0, 29, 4) = 0", "toss(0, 1420, 0) = 0", "toss(0, 1420, 1) = 1"));
        e.test(20, "-1: none)",
            "thing(0, 29, 4) = 0", "toss(0, 29, 0) = -1", "house(1, 14, 1) = 0", "toss(0, 1415, 0) = -1");
        e.test(20, "how many (1; -1)",
            "thing(0, 29, 4) = 0", "toss(0, 29, 1) = -1", "toss(0, 2, 1) = 2", "house(0, 1, 1) = 0",
            "toss(0, 2, 1) = -1", "toss(0, 6, 1) = 1");
    }

    private void tossRefused() {
        e.test(20, "-5: no such THING",
            "toss(0, 0, 0) = -5", "thing(0, 0, 4) = 0", "toss(-1|1|5|MIN|MAX, 0, 0|1) = -5");
        e.test(20, "-7: CELLS",
            "thing(0, 0, 4) = 0", "toss(0, 30|31|99|1430|2930|2999|3000|3029|9999|MAX, 0|1) = -7",
            "toss(0, -1|-29|-99|-100|-101|-200|MIN, 0|1) = -7", "toss(0, 2929, 0) = 0");
        e.test(20, "(the one a WALL, too)",
            "thing(0, 0, 4) = 0", "house(0, 15, 1) = 0", "toss(0, 1514|1515, 0..1) = -7", "toss(0, 1415, 0..1) = -1",
            "toss(0, 1413, 0) = 3");
        e.test(20, "what", "thing(0, 0, 4) = 0", "toss(0, 0|2929, -1|2|MIN|MAX) = -7");
        e.test(20, "REFUSALS, of several the first one told",
            "toss(0, 3000, 2) = -5", "toss(-1, -1, -1) = -5", "toss(1, 0, 2) = -5");
        e.test(20, "(a -1 that is an answer comes behind the refusal of a number)",
            "thing(0, 0, 4) = 0", "toss(0, 29, 0) = -1", "toss(0, 29, 2) = -7");
    }

    private void key() {
        e.test(21, "The house is truly TURNED",
            "thing(0, 14, 0) = 0", "key() = 1", "told(0, 0) = 14", "told(0, 1) = 1", "at(1, 0, 0) = 15",
            "count(4) = 0", "key() = 1", "told(0, 1) = 2");
        e.test(21, "each THING that isn't STILL goes WAY (w and 1) modulo 4",
            "thing(0, 1, 0) = 0", "thing(11, 2, 1) = 1", "thing(22, 3, 2) = 2", "thing(33, 4, 3) = 3",
            "thing(44, 5, 4) = 4", "key() = 4", "told(0, 1) = 1", "told(1, 1) = 2", "told(2, 1) = 3",
            "told(3, 1) = 0", "told(4, 1) = 4", "told(0, 0) = 1", "told(3, 0) = 4", "put(4, 5, 3) = 5", "key() = 5",
            "told(4, 1) = 0");
        e.test(21, "how many",
            "key() = 0", "thing(0, 1, 4) = 0", "key() = 0", "thing(0, 1, 3) = 1", "key() = 1", "thing(0, 1, 0..2)",
            "key() = 4", "put(0, 1, 0) = 1", "key() = 5");
    }

    private void turn() {
        e.test(22, "BEHIND how many STEPS (0 .. 20) the house should be TURNED, once",
            "thing(0, 0, 1) = 0", "turn(0, 24, 0) = 0", "turn(0, 13, 0) = 1", "turn(0, 14, 0) = 2",
            "turn(0, 29, 0) = 5", "told(0, 1) = 1", "house(0, 20, 1) = 0", "turn(0, 26, 0..1) = -1");
        e.test(22, "BEHIND how many STEPS (0 .. 20)", law("blows 4*(19<step);worth 0;hands 0;", "house(2, 3, 1) = 0",
            "thing(0, 3, 0) = 0", "turn(0, 2, 0) = 20", "turn(0, 2, 1) = 21"));
        e.test(22, "BEHIND how many STEPS (0 .. 20)", law("blows 4*(20<step);worth 0;hands 0;", "house(2, 3, 1) = 0",
            "thing(0, 3, 0) = 0", "turn(0, 2, 0..1) = -1", "turn(0, 9, 1) = 22", "set(1) = 0", "turn(0, 2, 0) = 20"));
        e.test(22, "so that a THING is in a CELL behind fewest STEPS (40 at most)",
            law("blows 2-(38<step);worth 0;hands 0;", "house(2, 24, 1) = 0", "house(0, 7..10, 1) = 0",
            "thing(0, 0, 1) = 0", "turn(0, 25, 0) = 0", "turn(0, 25, 1) = 40", "turn(0, 26, 0..1) = -1", "set(1) = 0",
            "turn(0, 26, 1) = 40", "turn(0, 25, 1) = 39"));
        e.test(22, "if fewer than without",
            "thing(0, 0, 1) = 0", "turn(0, 0|2|5, 0) = -1", "turn(0, 0, 1) = 0", "turn(0, 2, 1) = 2",
            "put(0, 2, 1) = 0", "turn(0, 1, 0) = -1", "turn(0, 1, 1) = 8", "new", "thing(20, 0, 1) = 0",
            "turn(0, 6, 0) = 0", "turn(0, 6, 1) = 1", "when(0, 6) = 20");
        e.test(22, "of like ones the least (what 0",
            "thing(31, 0, 1) = 0", "turn(0, 7, 0) = 1", "turn(0, 7, 1) = 3", "thing(32, 0, 1) = 1",
            "turn(1, 7, 0) = 1", "turn(1, 7, 1) = 4");
        e.test(22, "-1: there is no such one)",
            "thing(0, 0, 4) = 0", "turn(0, 1, 0) = -1", "turn(0, 0, 0) = -1", "house(0, 14, 1) = 0",
            "put(0, 12, 1) = 0", "turn(0, 14, 0) = -1");
        e.test(22, "how many STEPS then (1",
            "thing(0, 0, 1) = 0", "turn(0, 24, 1) = 4", "turn(0, 13, 1) = 3", "turn(0, 29, 1) = 9");
        e.test(22, "as without, if there is none", "thing(0, 0, 1) = 0", "turn(0, 5, 1) = 5", "turn(0, 0, 1) = 0");
        e.test(22, "-1: it never is)",
            "thing(0, 0, 4) = 0", "turn(0, 1, 1) = -1", "house(0, 12, 1) = 0", "put(0, 0, 2) = 0",
            "turn(0, 12, 1) = -1");
    }

    private void turnRefused() {
        e.test(22, "What is asked changes nothing, but where it is told",
            "thing(0, 0, 1) = 0", "thing(0, 29, 4) = 1", "when(1, 5) = -1", "turn(0, 5, 1) = 5", "when(1, 5) = -1",
            "turn(0, 5, 0) = -1", "turn(1, 29, 1) = 0", "turn(0, 29, 0) = 5", "told(0, 0) = 0", "told(0, 1) = 1",
            "count(4) = 0");
        e.test(22, "-5: no such THING",
            "turn(0, 0, 0) = -5", "thing(0, 0, 4) = 0", "turn(-1|1|5|MIN|MAX, 0, 0|1) = -5");
        e.test(22, "-7: no such CELL",
            "thing(0, 0, 4) = 0", "turn(0, -1|30|31|MIN|MAX, 0|1) = -7", "turn(0, 29, 0) = -1");
        e.test(22, "what", "thing(0, 0, 4) = 0", "turn(0, 0|29, -1|2|MIN|MAX) = -7");
        e.test(22, "REFUSALS, of several the first one told",
            "turn(0, 30, 2) = -5", "turn(-1, -1, -1) = -5", "turn(1, 0, 2) = -5");
        e.test(22, "(a -1 that is an answer comes behind the refusal of a number)",
            "thing(0, 0, 4) = 0", "turn(0, 29, 0..1) = -1", "turn(0, 29, 2) = -7");
    }

    private void net() {
        e.test(23,
            "The CELL without NET, WALL by which, had it a NET, most THINGS would be in CELLS with NETS BEHIND n STEPS",
            "thing(0, 14, 4) = 0", "thing(0, 12, 1) = 1", "net(2, 0) = 14", "net(2, 1) = 2", "net(1, 0) = 12",
            "net(9|40, 0) = 14", "house(1, 13, 1) = 0", "net(2, 0) = 14", "net(2, 1) = 2", "house(0, 2, 1) = 0",
            "count(2) = bits(13)", "house(1, 14, 1) = 0", "net(2, 0) = -1", "net(2, 1) = 2");
        e.test(23, "if more than now",
            "thing(0, 14, 4) = 0", "thing(0, 2, 1) = 1", "house(1, 14, 1) = 0", "net(0, 0) = 2", "net(0, 1) = 2",
            "house(1, 2, 1) = 0", "net(0, 0) = -1", "net(0|40, 1) = 2");
        e.test(23, "of like ones the first (what 0",
            "thing(0, 14, 4) = 0", "thing(0, 12, 4) = 1", "thing(0, 29, 4) = 2", "net(0|40, 0) = 12", "net(0, 1) = 1",
            "house(1, 12, 1) = 0", "net(0, 0) = 14", "net(0, 1) = 2");
        e.test(23, "-1: none)", "net(0|40, 0) = -1", "thing(0, 0, 1) = 0", "house(1, 0, 1) = 0", "net(0|40, 0) = -1");
        e.test(23, "how many then (1",
            "thing(0, 7, 4) = 0", "thing(0, 7, 4) = 1", "thing(0, 7, 4) = 2", "thing(0, 8, 4) = 3",
            "thing(0, 9, 4) = 4", "net(0, 1) = 3", "house(1, 9, 1) = 0", "net(0, 0) = 7", "net(0, 1) = 4");
        e.test(23, "as now, if none)",
            "net(0|40, 1) = 0", "thing(0, 0, 1) = 0", "house(1, 2, 1) = 0", "net(40, 1) = 1", "net(40, 0) = -1",
            "net(2, 0) = -1", "net(2, 1) = 1");
    }

    private void netRefused() {
        e.test(23, "BAD",
            "thing(0, 0, 1) = 0", "net(-1|41|MIN|MAX, 0|1) = BAD", "net(0|40, -1|2|MIN|MAX) = BAD",
            "net(41, 2) = BAD");
        e.test(23, "(a -1 that is an answer comes behind the refusal of a number)",
            "net(0, 0) = -1", "net(41, 0) = BAD", "net(0, 2) = BAD");
        e.test(23, "What is asked changes nothing, but where it is told",
            "thing(0, 0, 1) = 0", "net(3, 0) = 0", "count(2) = 0", "told(0, 0) = 0", "at(3, 0, 0) = 3");
    }
}

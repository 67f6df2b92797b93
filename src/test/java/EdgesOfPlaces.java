import java.util.ArrayList;
import java.util.Arrays;
import java.util.List;

/** Sentences of promises 24 to 35: which way it went, told places, throws by lot, images. */
final class EdgesOfPlaces {
    private static final String FIVE_IN_14 = "thing(0, 14, 0..4)";
    private final Edges e;

    private EdgesOfPlaces(Edges e) {
        this.e = e;
    }

    static void tell(Edges e) {
        EdgesOfPlaces all = new EdgesOfPlaces(e);
        all.can();
        all.look();
        all.went();
        all.search();
        all.judge();
        all.judgeRefused();
        all.times();
        all.laws();
        all.lawsRefused();
        all.film();
        all.drawn();
        all.lots();
        all.mean();
        all.meanRefused();
        all.image();
        all.back();
        all.backAgain();
    }

    private static String[] behind(List<String> first, String... rows) {
        List<String> all = new ArrayList<>(first);
        all.addAll(Arrays.asList(rows));
        return all.toArray(new String[0]);
    }

    /** HEAVY in 14, WALLS above and left, a FAN to the right: by up and left it stays, by right and STILL it is in 15. */
    private static String[] twoAndTwo(String... rows) {
        return behind(List.of("text 'blows 1;worth 0;hands 0;' = 1", "force(1) = 0", "house(0, 8|13, 1) = 0",
            "house(2, 14, 1) = 0", "thing(50, 14, 0) = 0"), rows);
    }

    /** THING 0 stays in 3 till step 38: in 4 it is BEHIND 40 STEPS, in 5 BEHIND 41. */
    private static String[] late(String... rows) {
        return behind(List.of("text 'blows 4-3*(38<step);worth 0;hands 0;' = 1", "force(1) = 0", "house(2, 3, 1) = 0",
            "thing(0, 3, 4) = 0"), rows);
    }

    private void can() {
        e.test(24, "CELLS (bits) in which a THING is BEHIND n STEPS, LET GO each of WAYS 0 .. 4",
            "thing(0, 14, 3) = 0", "can(0, 0) = bits(14)", "can(0, 1) = bits(8 13 14 15 20)",
            "can(0, 2) = bits(2 12 14 16 26)", "can(0, 40) = bits(13 14 17)", "put(0, 29, 0) = 14",
            "can(0, 1) = bits(23 28 29)", "put(0, 0, 4) = 29", "can(0, 1) = bits(0 1 6)");
        e.test(24, "LET GO each of WAYS 0 .. 4",
            "text 'blows 1;worth 0;hands 0;' = 1", "force(1) = 0", "house(2, 14, 1) = 0", "thing(50, 14, 0) = 0",
            "can(0, 1) = bits(8 13 15 20)", "thing(40, 14, 0) = 1", "can(1, 1) = bits(13)");
        e.test(24, "What is asked changes nothing, but where it is told",
            "thing(0, 14, 3) = 0", "thing(0, 0, 1) = 1", "can(0, 1)", "can(1, 1) = bits(0 1 6)",
            "can(0, 1) = bits(8 13 14 15 20)", "told(0, 1) = 3", "told(0, 0) = 14", "count(4) = 0");
        e.test(24, "LET GO one WAY: from where it is now, going that WAY (4: STILL)",
            "thing(0, 12, 1) = 0", "run(2) = 0", "can(0, 1) = bits(8 13 14 15 20)", "house(1, 14, 1) = 0",
            "can(0, 0|1|40) = bits(14)", "told(0, 1) = 1", "new", "thing(31, 14, 0) = 0", "set(1) = 0",
            "can(0, 1) = bits(14)", "can(0, 2) = bits(8 13 14 15 20)");
        e.test(24, "-5: no such THING", "can(0, 0) = -5", "thing(0, 0, 4) = 0", "can(-1|1|5|MIN|MAX, 0|40) = -5");
        e.test(24, "-7: n", "thing(0, 0, 4) = 0", "can(0, -1|41|MIN|MAX) = -7", "can(0, 40)");
        e.test(24, "REFUSALS, of several the first one told", "can(0, 41) = -5", "can(-1, -1) = -5");
    }

    private void look() {
        e.test(25, "The CELL in which it is by most of these five", twoAndTwo("house(0, 20, 1) = 0",
            "look(0, 1, 0) = 14", "put(0, 12, 1) = 14", "look(0, 0, 0) = 12", "look(0, 1, 0) = 12",
            "look(0, 2, 0) = 12", "new", "thing(10, 29, 0) = 0", "look(0, 0|1, 0) = 29", "put(0, 0, 0) = 29",
            "look(0, 1, 0) = 0"));
        e.test(25, "of like ones the first (what 0)", twoAndTwo("look(0, 1, 0) = 14", "look(0, 1, 1) = 2", "new",
            "thing(0, 14, 3) = 0", "look(0, 1, 0) = 8", "look(0, 2, 0) = 2"));
        e.test(25, "of like ones the first (what 0)",
            "thing(0, 0, 1) = 0", "can(0, 7) = bits(0 4 5 12 18)", "look(0, 7, 0) = 0", "look(0, 7, 1) = 1",
            "put(0, 1, 1) = 0", "look(0, 1, 0) = 1", "look(0, 1, 1) = 2", "put(0, 29, 1) = 1", "look(0, 7, 0) = 11",
            "put(0, 28, 1) = 29", "look(0, 1, 0) = 28");
        e.test(25, "What is asked changes nothing, but where it is told",
            "thing(0, 14, 3) = 0", "thing(0, 0, 1) = 1", "look(0, 1, 0) = 8", "look(1, 1, 0) = 0",
            "look(1, 1, 1) = 3", "look(0, 1, 0) = 8", "look(0, 1, 1) = 1", "told(0, 1) = 3", "count(4) = 0");
        e.test(25, "by how many (1)", twoAndTwo("look(0, 0, 1) = 5", "look(0, 1, 1) = 2", "house(0, 20, 1) = 0",
            "look(0, 1, 1) = 3", "house(0, 15, 1) = 0", "look(0, 1|40, 1) = 5", "new", "thing(0, 14, 3) = 0",
            "look(0, 1, 1) = 1", "put(0, 0, 3) = 14", "look(0, 1, 1) = 3"));
        e.test(25, "-5: no such THING",
            "look(0, 0, 0) = -5", "thing(0, 0, 4) = 0", "look(-1|1|5|MIN|MAX, 0, 0|1) = -5");
        e.test(25, "-7: n", "thing(0, 0, 4) = 0", "look(0, -1|41|MIN|MAX, 0|1) = -7", "look(0, 40, 1)");
        e.test(25, "what", "thing(0, 0, 4) = 0", "look(0, 0|40, -1|2|MIN|MAX) = -7");
        e.test(25, "REFUSALS, of several the first one told", "look(0, 41, 2) = -5", "look(-1, 0, -1) = -5");
    }

    private void went() {
        e.test(26, "WAYS (bits 0 .. 4) by which, LET GO so, it is in a CELL BEHIND n STEPS",
            "thing(0, 0, 2) = 0", "went(0, 0, 0) = 31", "went(0, 0, 1) = 0", "went(0, 1, 0) = bits(0 3 4)",
            "went(0, 1, 1) = bits(1)", "went(0, 1, 6) = bits(2)", "went(0, 2, 6) = bits(0)",
            "went(0, 2, 1) = bits(3)", "went(0, 40, 0) = bits(0 2 4)", "went(0, 40, 4) = bits(1)",
            "went(0, 40, 29) = 0");
        e.test(26, "WAYS (bits 0 .. 4)", twoAndTwo("went(0, 1, 14) = bits(0 3)", "went(0, 1, 15) = bits(1 4)",
            "went(0, 1, 20) = bits(2)", "went(0, 1, 8) = 0"));
        e.test(26, "What is asked changes nothing, but where it is told",
            "thing(0, 14, 3) = 0", "thing(0, 0, 1) = 1", "went(0, 1, 8) = bits(0)", "went(1, 1, 6) = bits(2)",
            "went(0, 1, 8) = bits(0)", "told(0, 1) = 3", "told(1, 1) = 1", "count(4) = 0");
        e.test(26, "-5: no such THING",
            "went(0, 0, 0) = -5", "thing(0, 0, 4) = 0", "went(-1|1|5|MIN|MAX, 0, 0) = -5");
        e.test(26, "-7: n", "thing(0, 0, 4) = 0", "went(0, -1|41|MIN|MAX, 0) = -7");
        e.test(26, "no such CELL", "thing(0, 0, 4) = 0", "went(0, 0|40, -1|30|31|32|MIN|MAX) = -7");
        e.test(26, "REFUSALS, of several the first one told",
            "went(0, 41, 30) = -5", "went(-1, -1, 0) = -5", "went(1, 0, 30) = -5");
    }

    private void search() {
        e.test(27, "CELLS in which it is by most of these five first", twoAndTwo("search(0, 1, 0) = 9",
            "search(0, 1, 1) = 5", "house(0, 8, 0) = 1", "house(0, 13, 0) = 1", "search(0, 1, 0) = 11",
            "house(0, 20, 1) = 0", "search(0, 1, 0) = 11", "house(0, 15, 1) = 0", "search(0, 1, 0) = 8", "new",
            "thing(0, 0, 4) = 0", "search(0, 1, 0) = 8", "put(0, 29, 4) = 0", "search(0, 1, 0) = 8",
            "search(0, 1, 1) = 5"));
        e.test(27, "of like ones the least first",
            "thing(0, 14, 4) = 0", "search(0, 1, 0) = 3", "search(0, 1, 1) = 1");
        e.test(27, "the mean, over the five, of which look finds it (1 the first): part 0 above, 1 below the line",
            "house(0, 7|9|19|21, 1) = 0", "thing(10, 8, 4) = 0", "search(0, 0, 0..1) = 1", "search(0, 1, 0) = 8",
            "search(0, 1, 1) = 5", "put(0, 13, 4) = 8", "house(0, 12, 1) = 0", "search(0, 1, 0) = 6",
            "search(0, 40, 1) = 5");
        e.test(27, "in lowest terms",
            "thing(0, 14, 4) = 0", "search(0, 0, 0) = 1", "search(0, 0, 1) = 1", "search(0, 2, 0) = 3",
            "search(0, 2, 1) = 1");
        e.test(27, "What is asked changes nothing, but where it is told",
            "thing(0, 14, 3) = 0", "thing(0, 0, 1) = 1", "search(0, 1, 0) = 3", "search(1, 1, 0) = 8",
            "search(0, 1, 0) = 3", "look(1, 1, 1) = 3", "told(0, 1) = 3", "count(4) = 0");
        e.test(27, "NO: none such",
            "search(0, 0, 0..1) = NO", "thing(0, 0, 4) = 0", "search(-1|1|5|MIN|MAX, 0, 0) = NO",
            "search(0, -1|41|MIN|MAX, 0..1) = NO", "search(0, 0|40, -1|2|MIN|MAX) = NO", "search(0, 40, 0..1)");
    }

    private void judge() {
        e.test(28, "A SHEET tells in which CELL each THING is BEHIND n STEPS",
            "thing(0, 0, 1) = 0", "thing(0, 14, 4) = 1", "row 0 2 = 2 14", "judge(0, 2) = -1", "judge(0, 0) = 0",
            "row 1 1 = 4 14", "judge(1, 40) = -1", "judge(1, 39) = 0", "row 2 0 = 0 14", "judge(2, 0) = -1",
            "row 3 0 = 29 0", "put(0, 29, 4) = 0", "put(1, 0, 4) = 14", "judge(3, 40) = -1");
        e.test(28, "the first that is elsewhere",
            "thing(0, 1, 4) = 0", "thing(0, 2, 4) = 1", "thing(0, 3, 4) = 2", "thing(0, 4, 4) = 3",
            "thing(0, 5, 4) = 4", "row 0 2 = 1 2 3 4 5", "judge(0, 7) = -1", "cell(0, 4, 6) = 1", "judge(0, 7) = 4",
            "cell(0, 2, -1) = 1", "judge(0, 7) = 2", "cell(0, 0, 30) = 1", "judge(0, 7) = 0", "cell(0, 0, MAX) = 1",
            "judge(0, 7) = 0", "cell(0, 0, 257) = 1", "judge(0, 7) = 0", "cell(0, 0, 1) = 1", "judge(0, 7) = 2");
        e.test(28, "What is asked changes nothing, but where it is told",
            "thing(0, 0, 1) = 0", "row 0 2 = 2", "judge(0, 2) = -1", "judge(0, 3) = 0", "judge(0, 2) = -1",
            "times(0) = bits(2 9 14 21 26 33 38)", "laws(0, 2) = 1", "judge(0, 2) = -1", "told(0, 0) = 0",
            "count(4) = 0", "count(6) = 0");
        e.test(28, "-1: none",
            "row 0 1 =", "judge(0, 0|40) = -1", "thing(0, 1, 4) = 0", "row 3 2 = 1", "judge(3, 0|40) = -1");
    }

    private void judgeRefused() {
        e.test(28, "BAD: SHEET", "sheet(0..3, 2, 0) = 1", "judge(-1|4|5|MIN|MAX, 0) = BAD", "judge(0|3, 0) = -1");
        e.test(28, "-11",
            "judge(0..3, 0) = -11", "sheet(0, 2, 0) = 1", "judge(1..3, 0) = -11", "sheet(0, -1, 0) = 1",
            "judge(0, 0) = -11");
        e.test(28, "BAD: its size isn't how many THINGS there are",
            "sheet(0, 2, 1) = 1", "sheet(1, 2, 0) = 1", "sheet(2, 2, 2) = 1", "judge(0|2, 0) = BAD",
            "judge(1, 0) = -1", "thing(0, 0, 4) = 0", "judge(0, 0) = -1", "judge(1|2, 0) = BAD", "thing(0, 0, 4) = 1",
            "judge(2, 0) = -1", "judge(0|1, 0) = BAD", "sheet(3, 2, 40) = 1", "judge(3, 0) = BAD");
        e.test(28, "-7: n", "sheet(0, 2, 0) = 1", "judge(0, -1|41|MIN|MAX) = -7");
        e.test(28, "REFUSALS, of several the first one told",
            "judge(4, 41) = BAD", "judge(0, 41) = -11", "sheet(0, 2, 1) = 1", "judge(0, 41) = BAD",
            "judge(0, -1) = BAD", "judge(-1, -1) = BAD");
        e.test(28, "(a -1 that is an answer comes behind the refusal of a number)",
            "sheet(0, 2, 0) = 1", "judge(0, 0) = -1", "judge(0, 41) = -7");
    }

    private void times() {
        e.test(29, "n (bits 0 .. 40) by which that is -1", late("row 0 2 = 4", "times(0) = 1099511627776",
            "row 0 2 = 3", "times(0) = 1099511627775", "row 0 2 = 5", "times(0) = 0", "put(0, 5, 4) = 3",
            "times(0) = 2199023255551"));
        e.test(29, "n (bits 0 .. 40) by which that is -1",
            "thing(0, 5, 3) = 0", "row 1 0 = 5", "times(1) = bits(0 11 12 23 24 35 36)", "thing(0, 0, 1) = 1",
            "row 1 0 = 2 3", "times(1) = bits(3 8 15 20 27 32 39)", "new", "sheet(0, 0, 0) = 1",
            "times(0) = 2199023255551");
        e.test(29, "NO: refused as of judge()",
            "times(-1|4|MIN|MAX) = NO", "times(0..3) = NO", "sheet(0, 2, 1) = 1", "times(0) = NO",
            "thing(0, 0, 4) = 0", "times(0) = 2199023255551", "thing(0, 0, 4) = 1", "times(0) = NO");
    }

    private void laws() {
        e.test(30, "TEXTS (bits), were they THE LAW, by which it is -1",
            "text 'blows 1;worth 0;hands 0;' = 1", "text 'blows 3;worth 0;hands 0;' = 2",
            "text 'blows 1+(step=2);worth 0;hands 0;' = 3", "text 'blows thing;worth 0;hands 0;' = 4",
            "text 'blows 1;worth 9;hands 9;' = 5", "house(2, 14, 1) = 0", "thing(0, 14, 4) = 0", "row 0 2 = 15",
            "row 1 1 = 14", "row 2 0 = 8", "laws(0, 1) = bits(1 3 5)", "laws(1, 1) = bits(0)", "laws(2, 1) = bits(4)",
            "laws(1, 0) = bits(0 1 2 3 4 5)", "laws(0, 0) = 0", "set(2) = 0", "laws(0, 1) = bits(1 5)",
            "force(2) = 0", "laws(0, 1) = bits(1 5)", "count(6) = 2", "judge(0, 1) = 0");
        e.test(30, "TEXTS (bits)",
            "sheet(0, 0, 0) = 1", "laws(0, 0|40) = bits(0)", "text 'blows 4;worth 0;hands 0;' = 1",
            "laws(0, 0|40) = bits(0 1)");
    }

    private void lawsRefused() {
        e.test(30, "BAD, -11, BAD, -7 as of judge()",
            "sheet(0, 2, 1) = 1", "laws(-1|4|MIN|MAX, 0|41) = BAD", "laws(1..3, 0|41) = -11",
            "laws(0, 0|41|-1) = BAD", "thing(0, 0, 4) = 0", "laws(0, -1|41|MIN|MAX) = -7", "laws(0, 40) = bits(0)",
            "thing(0, 0, 4) = 1", "laws(0, 0) = BAD");
    }

    private void film() {
        e.test(31, "A SHEET truly becomes that (ints)",
            "thing(0, 0, 1) = 0", "thing(0, 14, 4) = 1", "film(0, 2) = 2", "judge(0, 2) = -1", "judge(0, 1) = 0",
            "row 1 2 = 2 14", "copy(0, 0, 1, 0, 2) = 2", "judge(1, 2) = -1", "cell(0, 2, 0) = -12",
            "row 2 0 = 9 9 9 9", "film(2, 40) = 2", "judge(2, 40) = -1", "cell(2, 1, 14) = 1", "cell(2, 2, 14) = -12",
            "cell(2, 0, 65540) = 1", "judge(2, 40) = 0", "told(0, 0) = 0", "count(4) = 0");
        e.test(31, "how many THINGS",
            "film(0, 0|40) = 0", "cell(0, 0, 0) = -12", "judge(0, 0) = -1", "thing(0, 0, 1) = 0", "film(3, 0) = 1",
            "thing(0, 0, 1|2|3|4)", "film(3, 1) = 5", "judge(3, 1) = -1", "judge(0, 0) = BAD");
        e.test(31, "BAD: SHEET", "thing(0, 0, 1) = 0", "film(-1|4|MIN|MAX, 0|41) = BAD", "judge(0..3, 0) = -11");
        e.test(31, "-7: n",
            "thing(0, 3, 1) = 0", "film(0, -1|41|MIN|MAX) = -7", "judge(0, 0) = -11", "row 1 1 = 3",
            "film(1, 41) = -7", "judge(1, 0) = -1", "cell(1, 0, 65539) = 1", "judge(1, 0) = -1");
        e.test(31, "They change nothing, but where it is told",
            "thing(0, 3, 1) = 0", "row 0 1 = 3", "film(0, 41) = -7", "film(4, 0) = BAD", "judge(0, 0) = -1",
            "thingsBy(0, 1, 0, 0) = 0", "film(0, 40) = 1", "thingsBy(0, 2, 0, 0) = 0");
        e.test(31, "REFUSALS, of several the first one told", "film(4, 41) = BAD", "film(-1, -1) = BAD");
    }

    private void drawn() {
        e.test(32, "DRAWN: how many THINGS are in a CELL BEHIND n STEPS",
            "drawn(0|99999, 0|40, 0|29) = 0", FIVE_IN_14, "drawn(0, 0, 14) = 5", "drawn(0, 0, 13) = 0",
            "drawn(0, 1, 15) = 3", "drawn(0, 1, 20) = 1", "drawn(0, 1, 14) = 1", "drawn(0, 1, 8|13) = 0",
            "drawn(0, 2, 16) = 3", "drawn(0, 40, 14) = 2", "drawn(0, 40, 17) = 3", "told(0, 1) = 0",
            "told(4, 1) = 4");
        e.test(32, "What is asked changes nothing, but where it is told",
            FIVE_IN_14, "drawn(0, 1, 15) = 3", "drawn(99999, 1, 8) = 2", "drawn(0, 1, 15) = 3",
            "mean(0, 1, 115, 0) = 3", "mean(0, 2, 115, 0) = 3", "drawn(0, 1, 15) = 3", "told(0, 1) = 0",
            "told(4, 1) = 4", "told(0..4, 0) = 14", "count(4) = 0");
        e.test(32, "BAD",
            FIVE_IN_14, "drawn(-1|100000|MIN|MAX, 0, 14) = BAD", "drawn(0|99999, -1|41|MIN|MAX, 14) = BAD",
            "drawn(0|99999, 0|40, -1|30|MIN|MAX) = BAD");
    }

    private void lots() {
        e.test(32, "DRAWN by a SEED (0 .. 99999): for each THING, by numbers, a LOT: it is LET GO WAY LOT modulo 5",
            FIVE_IN_14, "drawn(0, 1, 15) = 3", "drawn(99999, 1, 8) = 2", "drawn(99999, 1, 15|14|13) = 1",
            "drawn(99999, 1, 20) = 0", "drawn(100000|-1, 1, 15) = BAD", "new", "thing(30, 0, 0) = 0",
            "thing(0, 14, 0) = 1", "thing(0, 29, 0) = 2", "drawn(0, 1, 1) = 1", "drawn(0, 1, 14) = 1",
            "drawn(0, 1, 29) = 1", "drawn(1, 1, 6) = 1", "drawn(1, 1, 13) = 1", "drawn(1, 1, 23) = 1");
        e.test(32, "LOTS: the first is (SEED and 1) times 48271 modulo 2147483647",
            "thing(0, 14, 0) = 0", "drawn(0, 1, 15) = 1", "drawn(1, 1, 20) = 1", "drawn(2, 1, 13) = 1",
            "drawn(3, 1, 14) = 1", "drawn(4, 1, 8) = 1", "drawn(44487, 1, 13) = 1", "drawn(44488, 1, 20) = 1",
            "drawn(99998, 1, 8) = 1", "drawn(99999, 1, 15) = 1");
        e.test(32, "each further one the last times 48271 modulo 2147483647",
            "thing(10, 0, 4) = 0", "thing(0, 14, 4) = 1", "drawn(0, 1, 14) = 1", "drawn(1, 1, 13) = 1",
            "drawn(99999, 1, 14) = 1", "thing(0, 14, 4) = 2", "drawn(0, 1, 14) = 1", "drawn(0, 1, 15) = 1",
            "drawn(1, 1, 8|13) = 1", "thing(0, 14, 4) = 3", "drawn(0, 1, 20) = 1", "thing(0, 29, 4) = 4",
            "drawn(7, 1, 29) = 1", "drawn(4, 1, 29) = 1", "drawn(3, 1, 28) = 1", "drawn(1, 1, 23) = 1");
    }

    private void mean() {
        e.test(33, "The mean of that (nCell: 100 times n, and the CELL)",
            FIVE_IN_14, "mean(0, 1, 14, 0) = 5", "mean(0, 1, 14, 1) = 1", "mean(0, 1, 115, 0) = 3",
            "mean(0, 1, 216, 0) = 3", "mean(0, 1, 4017, 0) = 3", "mean(0, 1, 4014, 0) = 2",
            "mean(0, 1, 0|29|4029, 0) = 0", "mean(0, 1, 4000, 1) = 1");
        e.test(33, "over so many (1 .. 40) seeds, SEED and each 1 more",
            FIVE_IN_14, "mean(0, 1, 108, 0) = 0", "mean(0, 2, 108, 0..1) = 1", "mean(0, 2, 115, 0) = 3",
            "mean(0, 2, 115, 1) = 2", "mean(0, 40, 108, 0) = 37", "mean(0, 40, 108, 1) = 40",
            "mean(0, 40, 115, 0) = 21", "mean(0, 40, 115, 1) = 20", "mean(5, 20, 114, 0) = 5",
            "mean(5, 20, 114, 1) = 4", "mean(99999, 1, 108, 0) = 2", "mean(99960, 40, 113, 0) = 41",
            "mean(99960, 40, 113, 1) = 40");
        e.test(33, "part 0 above, 1 below the line, in lowest terms",
            FIVE_IN_14, "mean(5, 20, 108, 0) = 3", "mean(5, 20, 108, 1) = 4", "mean(5, 20, 113, 0) = 4",
            "mean(5, 20, 113, 1) = 5", "mean(0, 40, 14, 0) = 5", "mean(0, 40, 14, 1) = 1", "mean(0, 40, 0, 0) = 0",
            "mean(0, 40, 0, 1) = 1", "new", "mean(0, 40, 0, 0) = 0", "mean(0, 40, 0, 1) = 1",
            "mean(99999, 1, 4029, 1) = 1");
    }

    private void meanRefused() {
        e.test(33, "NO: none such",
            FIVE_IN_14, "mean(-1|100000|MIN|MAX, 1, 0, 0..1) = NO", "mean(0, -1|0|41|MIN|MAX, 0, 0..1) = NO",
            "mean(0, 1, -1|-70|-100|30|99|130|4030|4099|4100|MIN|MAX, 0..1) = NO",
            "mean(0, 1, 0, -1|2|MIN|MAX) = NO");
    }

    private void image() {
        e.test(34, "AN IMAGE is kept: how many THINGS",
            "image() = 0", "thing(0, 0, 1) = 0", "image() = 1", "put(0, 9, 1) = 0", "thing(0, 0, 1|2|3|4)",
            "back() = 1", "told(0, 0) = 0", "thing(0, 0, 1|2|3|4)", "image() = 5", "put(4, 29, 0) = 0", "back() = 5",
            "told(4, 0) = 0");
        e.test(34, "AN IMAGE is kept",
            "house(0, 1, 1) = 0", "image() = 0", "house(0, 2, 1) = 0", "image() = 0", "house(0, 1, 0) = 1",
            "house(0, 2, 0) = 1", "back() = 0", "count(1) = bits(1 2)");
    }

    private void back() {
        e.test(35, "All that it keeps is as in THE IMAGE",
            "house(0, 1, 1) = 0", "house(1, 2, 1) = 0", "house(2, 3, 1) = 0", "set(33) = 0",
            "text 'blows 1;worth 1;hands 1;' = 1", "force(1) = 0", "thing(34, 14, 2) = 0", "image() = 1",
            "house(0, 1, 0) = 1", "house(1, 2, 0) = 1", "house(2, 3, 0) = 1", "house(0..2, 29, 1) = 0",
            "set(44) = 33", "force(0) = 1", "put(0, 15, 1) = 14", "back() = 1", "count(1) = bits(1)",
            "count(2) = bits(2)", "count(3) = bits(3)", "count(4) = 33", "count(6) = 1", "told(0, 0) = 14",
            "told(0, 1) = 2", "told(0, 2) = 3", "told(0, 3) = 4");
        e.test(35,
            "AN IMAGE keeps WALLS, NETS, FANS, THE STEP, where THINGS are, which WAY they go, how many there are, THE LAW",
            "image() = 0", "text 'blows 1;worth 1;hands 1;' = 1", "force(1) = 0", "tape 'ab'", "row 0 2 = 7 8",
            "thing(0, 7, 1) = 0", "house(0, 29, 1) = 0", "back() = 0", "count(5) = 2", "count(7) = 2",
            "cell(0, 1, 8) = 1", "cell(0, 2, 8) = -12", "count(6) = 0", "count(1) = 0", "count(0) = 0",
            "force(1) = 0", "asks(1, 0, 0, 0) = 1");
        e.test(35, "THINGS that came since are none",
            "thing(9, 1, 0) = 0", "image() = 1", "thing(18, 2, 0) = 1", "thing(27, 3, 0) = 2", "back() = 1",
            "told(1..2, 0..3) = -5", "taken(31, 0) = -11", "inside(0, 2) = 0", "thing(56, 7, 4) = 1",
            "told(1, 0) = 7", "told(1, 2) = 5", "told(1, 3) = 6", "told(0, 3) = 9");
        e.test(35, "how many there are",
            "image() = 0", "back() = 0", "thing(0, 0, 0..2)", "image() = 3", "back() = 3", "back() = 3");
        e.test(35, "STATE: there is none",
            "back() = STATE", "thing(0, 0, 0) = 0", "back() = STATE", "count(0) = 1", "image() = 1", "back() = 1");
    }

    private void backAgain() {
        e.test(35, "All that it keeps is as in THE IMAGE",
            "thing(0, 0, 1) = 0", "set(5) = 0", "image() = 1", "run(4) = 0", "back() = 1", "told(0, 0) = 0",
            "count(4) = 5", "run(3) = 0", "house(1, 7, 1) = 0", "back() = 1", "told(0, 0) = 0", "count(2) = 0",
            "key() = 1", "back() = 1", "told(0, 1) = 1");
        e.test(35, "STATE as told; FULL",
            "back() = STATE", "thing(0, 7, 0..4)", "image() = 5", "thing(0, 7, 0) = FULL", "house(0, 7, 1) = STATE",
            "back() = 5");
        e.test(35, "They change nothing, but where it is told",
            "thing(0, 7, 1) = 0", "house(0, 9, 1) = 0", "set(3) = 0", "back() = STATE", "count(0) = 1",
            "count(1) = bits(9)", "count(4) = 3", "told(0, 0) = 7");
    }
}

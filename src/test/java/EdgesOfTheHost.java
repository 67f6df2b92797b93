/** Sentences of promises 36 to 40: the host's sheets, and what is taken for what. */
final class EdgesOfTheHost {
    private final Edges e;

    private EdgesOfTheHost(Edges e) {
        this.e = e;
    }

    static void tell(Edges e) {
        EdgesOfTheHost all = new EdgesOfTheHost(e);
        all.sheet();
        all.sheetRefused();
        all.cell();
        all.cellRefused();
        all.copy();
        all.copyRefused();
        all.thingsBy();
        all.thingsByLeftOut();
        all.thingsByRefused();
        all.taken();
        all.takenRefused();
    }

    private void sheet() {
        e.test(36, "A SHEET becomes a row of n of a sort",
            "sheet(0, 0, 40) = 1", "cell(0, 39, 0) = 1", "cell(0, 40, 0) = -12", "thingsBy(0, 0, 0, 0) = 0",
            "thingsBy(0, 1|2, 0, 0) = -13", "sheet(1, 1, 1) = 1", "cell(1, 0, 0) = 1", "cell(1, 1, 0) = -12",
            "thingsBy(1, 1, 0, 0) = 0", "thingsBy(1, 0|2, 0, 0) = -13", "sheet(3, 2, 0) = 1", "cell(3, 0, 0) = -12",
            "thingsBy(3, 2, 0, 0) = 0", "thingsBy(3, 0|1, 0, 0) = -13", "cell(2, 0, 0) = -11");
        e.test(36, "all 0",
            "thing(0, 0, 4) = 0", "row 0 2 = 7", "judge(0, 0) = 0", "sheet(0, 2, 1) = 1", "judge(0, 0) = -1",
            "thing(0, 0, 4) = 1", "row 1 2 = 7 8", "sheet(1, 2, 1) = 1", "sheet(1, 2, 2) = 1", "judge(1, 0) = -1",
            "row 2 0 = 7 8", "sheet(2, 1, 2) = 1", "judge(2, 0) = -1", "row 3 0 = 7 8", "sheet(3, -1, 0) = 1",
            "sheet(3, 0, 2) = 1", "judge(3, 0) = -1");
        e.test(36, "or missing (sort -1: n does not matter): 1",
            "sheet(0..3, -1, -1|0|41|MIN|MAX) = 1", "cell(0..3, 0, 0) = -11", "sheet(0..3, 2, 3) = 1",
            "sheet(0, -1, -1) = 1", "cell(0, 0, 0) = -11", "sheet(1, -1, 41) = 1", "cell(1, 0, 0) = -11",
            "sheet(2, -1, MIN) = 1", "cell(2, 0, 0) = -11", "sheet(3, -1, 3) = 1", "cell(3, 0, 0) = -11");
        e.test(36, "SHEETS 0 .. 3 are rows of numbers",
            "sheet(0, 2, 1) = 1", "cell(1..3, 0, 0) = -11", "sheet(3, 2, 2) = 1", "cell(1..2, 0, 0) = -11",
            "cell(0, 1, 0) = -12", "cell(3, 1, 0) = 1", "sheet(4|-1, 2, 1) = BAD");
        e.test(36, "of sort 0 bytes, 1 shorts, 2 ints, 40 at most",
            "sheet(0, 0, 40) = 1", "sheet(1, 1, 40) = 1", "sheet(2, 2, 40) = 1", "sheet(3, 0..2, 41) = BAD",
            "sheet(3, 3, 1) = BAD", "cell(0..2, 39, 1) = 1", "cell(0..2, 40, 1) = -12");
    }

    private void sheetRefused() {
        e.test(36, "BAD: SHEET", "sheet(-1|4|5|MIN|MAX, -1..2, 3) = BAD", "cell(0..3, 0, 0) = -11");
        e.test(36, "sort", "sheet(0..3, -2|3|MIN|MAX, 3) = BAD", "cell(0..3, 0, 0) = -11");
        e.test(36, "n above 40",
            "sheet(0..3, 0..2, 41|42|MAX) = BAD", "cell(0..3, 0, 0) = -11", "sheet(3, 2, 40) = 1");
        e.test(36, "-14", "sheet(0..3, 0..2, -1|-2|MIN) = -14", "cell(0..3, 0, 0) = -11", "sheet(3, 2, 0) = 1");
        e.test(36, "-14 a size below 0",
            "sheet(0, 2, -1) = -14", "sheet(0, 2, 0) = 1", "sheet(0, 2, -1) = -14", "cell(0, 0, 0) = -12");
        e.test(36, "REFUSALS, of several the first one told",
            "sheet(4, -1, -1) = BAD", "sheet(4, 0, -1) = BAD", "sheet(0, 3, -1) = BAD", "sheet(0, -2, -1) = BAD");
        e.test(36, "They change nothing, but where it is told",
            "thing(0, 7, 4) = 0", "row 0 2 = 7", "sheet(0, 2, -1) = -14", "sheet(0, 1, 41) = BAD",
            "sheet(0, 3, 1) = BAD", "sheet(0, -2, 1) = BAD", "judge(0, 0) = -1", "thingsBy(0, 2, 0, 0) = 0");
    }

    private void cell() {
        e.test(37, "Number i of a SHEET becomes v",
            "thing(0, 7, 4) = 0", "thing(0, 8, 4) = 1", "sheet(0, 2, 2) = 1", "cell(0, 0, 7) = 1", "judge(0, 0) = 1",
            "cell(0, 1, 8) = 1", "judge(0, 0) = -1", "cell(0, 0, 8) = 1", "judge(0, 0) = 0", "sheet(3, 0, 40) = 1",
            "cell(3, 0|39, 29) = 1");
        e.test(37, "(of bytes, shorts its lowest 8, 16 bits): 1",
            "thing(0, 7, 4) = 0", "row 0 0 = 263", "judge(0, 0) = -1", "row 0 0 = -249", "judge(0, 0) = -1",
            "row 0 0 = 65543", "judge(0, 0) = -1", "row 0 0 = 135", "judge(0, 0) = 0", "row 0 0 = 71",
            "judge(0, 0) = 0", "row 1 1 = 65543", "judge(1, 0) = -1", "row 1 1 = -65529", "judge(1, 0) = -1",
            "row 1 1 = 263", "judge(1, 0) = 0", "row 1 1 = 32775", "judge(1, 0) = 0", "row 2 2 = 65543",
            "judge(2, 0) = 0", "row 2 2 = 263", "judge(2, 0) = 0", "row 2 2 = -2147483641", "judge(2, 0) = 0",
            "row 2 2 = 7", "judge(2, 0) = -1", "put(0, 0, 4) = 7", "row 0 0 = MIN", "judge(0, 0) = -1",
            "row 1 1 = MIN", "judge(1, 0) = -1", "row 2 2 = MIN", "judge(2, 0) = 0", "row 1 1 = 256",
            "judge(1, 0) = 0", "row 2 2 = 65536", "judge(2, 0) = 0");
    }

    private void cellRefused() {
        e.test(37, "BAD: SHEET", "cell(-1|4|MIN|MAX, 0, 0) = BAD");
        e.test(37, "-11",
            "cell(0..3, 0|-1|99, 0) = -11", "sheet(0, 0, 1) = 1", "cell(0, 0, 0) = 1", "cell(1, 0, 0) = -11",
            "sheet(0, -1, 0) = 1", "cell(0, 0, 0) = -11");
        e.test(37, "The host's: -11 nothing there, -12 a place outside",
            "cell(0, -1, 0) = -11", "sheet(0, 0, 0) = 1", "cell(0, -1|0, 0) = -12");
        e.test(37, "-12",
            "thing(0, 9, 4) = 0", "row 0 2 = 9", "cell(0, -1|1|2|39|40|MIN|MAX, 7) = -12", "judge(0, 0) = -1",
            "sheet(1, 1, 40) = 1", "cell(1, -1|40|MIN|MAX, 7) = -12", "sheet(2, 0, 0) = 1", "cell(2, 0, 7) = -12");
        e.test(37, "They change nothing, but where it is told",
            "thing(0, 9, 4) = 0", "row 0 2 = 9", "cell(0, 1, 7) = -12", "cell(0, -1, 7) = -12", "cell(4, 0, 7) = BAD",
            "cell(1, 0, 7) = -11", "judge(0, 0) = -1", "judge(1, 0) = -11");
        e.test(37, "REFUSALS, of several the first one told", "cell(4, -1, 0) = BAD", "cell(0, -1, 0) = -11");
    }

    private void copy() {
        e.test(38, "n numbers of a SHEET, from i on, come to another one's",
            "thing(0, 9, 4) = 0", "thing(0, 2, 4) = 1", "thing(0, 3, 4) = 2", "thing(0, 9, 4) = 3",
            "row 0 2 = 1 2 3 4", "row 1 2 = 9 9 9 9", "copy(0, 1, 1, 1, 2) = 2", "judge(1, 0) = -1",
            "put(0, 1, 4) = 9", "put(3, 4, 4) = 9", "judge(0, 0) = -1", "copy(0, 0, 1, 0, 1) = 1", "judge(1, 0) = 3",
            "copy(0, 3, 1, 3, 1) = 1", "judge(1, 0) = -1", "copy(0, 0, 1, 3, 1) = 1", "judge(1, 0) = 3",
            "copy(0, 0, 1, 0, 4) = 4", "judge(1, 0) = -1", "new", "thing(0, 8, 4) = 0", "row 0 0 = 8",
            "sheet(1, 0, 40) = 1", "copy(0, 0, 1, 39, 1) = 1", "sheet(0, 0, 1) = 1", "copy(1, 39, 0, 0, 1) = 1",
            "judge(0, 0) = -1", "sheet(2, 0, 40) = 1", "copy(2, 0, 1, 0, 40) = 40", "copy(1, 39, 0, 0, 1) = 1",
            "judge(0, 0) = 0");
        e.test(38, "(or its own) place j (as they were)",
            "thing(0, 1, 4) = 0", "thing(0, 1, 4) = 1", "thing(0, 2, 4) = 2", "thing(0, 3, 4) = 3",
            "thing(0, 4, 4) = 4", "row 0 2 = 1 2 3 4 5", "copy(0, 0, 0, 1, 4) = 4", "judge(0, 0) = -1",
            "copy(0, 2, 0, 2, 3) = 3", "judge(0, 0) = -1", "row 1 1 = 1 2 3 4 5", "copy(1, 0, 1, 1, 4) = 4",
            "judge(1, 0) = -1", "put(4, 3, 4) = 4", "row 2 0 = 9 1 1 2 3", "copy(2, 1, 2, 0, 4) = 4",
            "judge(2, 0) = -1", "row 3 2 = 9 1 1 2 3", "copy(3, 1, 3, 0, 4) = 4", "judge(3, 0) = -1");
        e.test(38, "n",
            "sheet(0, 2, 4) = 1", "sheet(1, 2, 4) = 1", "copy(0, 0|4, 1, 0|4, 0) = 0", "copy(0, 0, 1, 0, 1) = 1",
            "copy(0, 0, 1, 0, 4) = 4", "copy(0, 3, 1, 0, 1) = 1", "copy(0, 0, 1, 3, 1) = 1");
    }

    private void copyRefused() {
        e.test(38, "BAD: SHEETS",
            "sheet(0..3, 2, 4) = 1", "copy(-1|4|MIN|MAX, 0, 0, 0, 1) = BAD", "copy(0, 0, -1|4|MIN|MAX, 0, 1) = BAD",
            "copy(4, 0, 4, 0, 1) = BAD");
        e.test(38, "-11",
            "copy(0..3, 0, 0..3, 0, 0|1) = -11", "sheet(0, 2, 4) = 1", "copy(0, 0, 1..3, 0, 1) = -11",
            "copy(1..3, 0, 0, 0, 1) = -11", "copy(0, 0, 0, 0, 1) = 1");
        e.test(38, "-13: unlike sorts",
            "sheet(0, 0, 4) = 1", "sheet(1, 1, 4) = 1", "sheet(2, 2, 4) = 1", "sheet(3, 0, 4) = 1",
            "copy(0, 0, 1|2, 0, 1) = -13", "copy(1, 0, 0|2|3, 0, 0) = -13", "copy(2, 0, 0|1|3, 0, 1) = -13",
            "copy(0, 0, 3, 0, 1) = 1", "copy(3, 0, 0, 0, 1) = 1");
        e.test(38, "-12",
            "thing(0, 1, 4) = 0", "thing(0, 2, 4) = 1", "row 0 2 = 7 8 9", "row 1 2 = 1 2",
            "copy(0, -1|3|4|MIN|MAX, 1, 0, 1) = -12", "copy(0, 0, 1, -1|2|3|MIN|MAX, 1) = -12",
            "copy(0, 0, 1, 0, 3|4|MAX) = -12", "copy(0, 2, 1, 0, 2) = -12", "copy(0, 0, 1, 1, 2) = -12",
            "copy(0, 2, 1, 0, MAX) = -12", "copy(0, MAX, 1, MAX, MAX) = -12", "copy(0, MIN, 1, 0, MIN) = -12",
            "copy(0, -1, 1, 0, 2) = -12", "copy(0, 0, 1, -1, 2) = -12", "judge(1, 0) = -1",
            "copy(1, 1, 1, 0, 2) = -12", "judge(1, 0) = -1");
        e.test(38, "a place outside",
            "sheet(0, 2, 4) = 1", "sheet(1, 2, 2) = 1", "copy(0, -1|5|MIN|MAX, 1, 0, 0) = -12",
            "copy(0, 0, 1, -1|3|MIN|MAX, 0) = -12", "copy(0, 3, 1, 1, 1) = 1");
        e.test(38, "They change nothing, but where it is told",
            "thing(0, 1, 4) = 0", "thing(0, 2, 4) = 1", "row 0 2 = 7 8 9", "row 1 2 = 1 2", "row 2 0 = 5 6",
            "copy(0, 0, 1, 0, 3) = -12", "copy(0, 2, 1, 0, 2) = -12", "copy(2, 0, 1, 0, 1) = -13",
            "copy(3, 0, 1, 0, 1) = -11", "copy(0, 0, 4, 0, 1) = BAD", "copy(0, 0, 1, 0, -1) = -12",
            "judge(1, 0) = -1");
        e.test(38, "-12 (n below 0, too)",
            "sheet(0, 2, 4) = 1", "copy(0, 2, 0, 1, -1|-2|MIN) = -12", "copy(0, 0, 0, 0, -1|MIN) = -12",
            "copy(0, 4, 0, 4, -1) = -12");
        e.test(38, "REFUSALS, of several the first one told",
            "copy(4, -1, 0, -1, -1) = BAD", "copy(0, -1, 4, -1, -1) = BAD", "copy(0, -1, 1, -1, -1) = -11",
            "sheet(0, 0, 1) = 1", "copy(0, -1, 4, 0, 1) = BAD", "copy(0, -1, 1, -1, -1) = -11",
            "copy(1, -1, 0, -1, -1) = -11", "sheet(1, 1, 1) = 1", "copy(0, -1, 1, -1, -1) = -13",
            "copy(0, 0, 1, 0, 2) = -13");
    }

    private void thingsBy() {
        e.test(39, "THINGS by a SHEET of a sort",
            "row 0 2 = 34 12 3", "thingsBy(0, 2, 0, 1) = 1", "told(0, 0) = 12", "told(0, 1) = 3", "told(0, 2) = 3",
            "told(0, 3) = 4", "row 1 0 = 59 29 4", "thingsBy(1, 0, 0, 1) = 1", "told(1, 0) = 29", "told(1, 1) = 4",
            "told(1, 2) = 5", "told(1, 3) = 9", "row 2 1 = 0 0 0", "thingsBy(2, 1, 0, 1) = 1", "told(2, 0..3) = 0");
        e.test(39, "from a place on, three by three (as of thing())",
            "row 0 2 = 99 1 7 0 12 8 1 20 9 2", "thingsBy(0, 2, 1, 3) = 3", "told(0, 0) = 7", "told(0, 1) = 0",
            "told(0, 3) = 1", "told(1, 0) = 8", "told(1, 2) = 1", "told(1, 3) = 2", "told(2, 0) = 9",
            "told(2, 1) = 2", "told(2, 2) = 2", "new", "sheet(0, 0, 40) = 1", "thingsBy(0, 0, 37, 1) = 1",
            "thingsBy(0, 0, 38, 1) = -12", "count(0) = 1");
        e.test(39, "n of them (0 .. 5)",
            "sheet(0, 2, 15) = 1", "thingsBy(0, 2, 0, 0) = 0", "count(0) = 0", "thingsBy(0, 2, 0, 1) = 1",
            "count(0) = 1", "image() = 1", "thingsBy(0, 2, 0, 4) = 4", "count(0) = 5", "new", "sheet(0, 2, 15) = 1",
            "thingsBy(0, 2, 0, 5) = 5", "count(0) = 5");
    }

    private void thingsByLeftOut() {
        e.test(39, "how many came (others are left out)",
            "house(0, 5, 1) = 0", "row 0 2 = 60 7 0 0 5 0 0 30 0 0 8 5 0 9 4", "thingsBy(0, 2, 0, 5) = 1",
            "count(0) = 1", "told(0, 0) = 9", "thingsBy(0, 2, 0, 4) = 0", "count(0) = 1",
            "row 1 0 = -1 7 0 0 -1 0 0 7 -1 0 6 0", "thingsBy(1, 0, 0, 4) = 1", "told(1, 0) = 6");
        e.test(39, "others are left out",
            "sheet(0, 2, 15) = 1", "thing(0, 29, 0|1|2)", "thingsBy(0, 2, 0, 5) = 2", "count(0) = 5",
            "thingsBy(0, 2, 0, 5) = 0", "count(0) = 5", "told(2, 0) = 29", "told(3..4, 0) = 0");
    }

    private void thingsByRefused() {
        e.test(39, "BAD: SHEET", "sheet(0..3, 2, 15) = 1", "thingsBy(-1|4|MIN|MAX, 2, 0, 1) = BAD", "count(0) = 0");
        e.test(39, "sort",
            "sheet(0..3, 2, 15) = 1", "thingsBy(0, -1|3|MIN|MAX, 0, 1) = BAD", "sheet(1, -1, 0) = 1",
            "thingsBy(1, -1, 0, 0) = BAD", "count(0) = 0");
        e.test(39, "BAD: SHEET, sort, n",
            "sheet(0, 2, 40) = 1", "thingsBy(0, 2, 0, -1|6|7|MIN|MAX) = BAD", "count(0) = 0");
        e.test(39, "-11",
            "thingsBy(0..3, 0..2, 0|-1, 0|1) = -11", "sheet(1, 2, 3) = 1", "thingsBy(0|2|3, 2, 0, 1) = -11",
            "count(0) = 0", "thingsBy(1, 2, 0, 1) = 1");
        e.test(39, "-13",
            "sheet(0, 0, 6) = 1", "sheet(1, 1, 6) = 1", "sheet(2, 2, 6) = 1", "thingsBy(0, 1|2, 0, 0|1) = -13",
            "thingsBy(1, 0|2, 0, 0|1) = -13", "thingsBy(2, 0|1, 0, 0|1) = -13", "count(0) = 0");
        e.test(39, "-12",
            "sheet(0, 2, 7) = 1", "thingsBy(0, 2, -1|-2|-3|5|6|7|8|MIN|MAX, 1) = -12",
            "thingsBy(0, 2, -3|MIN|MAX, 5) = -12", "count(0) = 0", "thingsBy(0, 2, 4, 1) = 1", "sheet(1, 2, 0) = 1",
            "thingsBy(1, 2, 0, 1) = -12", "sheet(1, 2, 2) = 1", "thingsBy(1, 2, 0, 1) = -12", "count(0) = 1");
        e.test(39, "They change nothing, but where it is told",
            "thing(0, 9, 1) = 0", "row 0 2 = 0 7 1", "thingsBy(0, 2, 0, 6) = BAD", "thingsBy(0, 1, 0, 1) = -13",
            "thingsBy(1, 2, 0, 1) = -11", "thingsBy(0, 2, 1, 1) = -12", "count(0) = 1", "told(0, 0) = 9",
            "thingsBy(0, 2, 0, 1) = 1", "told(1, 0) = 7");
        e.test(39, "what stood ahead came",
            "row 0 2 = 0 7 1 12 8 2 0", "thingsBy(0, 2, 0, 3) = -12", "count(0) = 2", "told(0, 0) = 7",
            "told(1, 0) = 8", "told(1, 2) = 1", "thingsBy(0, 2, 3, 5) = -12", "count(0) = 3", "told(2, 0) = 8",
            "thingsBy(0, 2, 5, 1) = -12", "count(0) = 3");
        e.test(39, "REFUSALS, of several the first one told",
            "thingsBy(4, 3, -1, 6) = BAD", "thingsBy(0, 0, -1, 6) = BAD", "thingsBy(0, 3, -1, 1) = BAD",
            "thingsBy(0, 0, -1, 1) = -11", "sheet(0, 2, 3) = 1", "thingsBy(0, 0, -1, 6) = BAD",
            "thingsBy(0, 0, -1, 1) = -13", "thingsBy(0, 2, -1, 1) = -12");
    }

    private void taken() {
        e.test(40, "What lies at place i: 0 .. 29 CELLS with a NET or a FAN",
            "house(1, 0|29, 1) = 0", "house(2, 1|28, 1) = 0", "taken(0|29, 6) = 1", "taken(1|28, 6) = 0",
            "taken(2|27, 6) = -11", "house(0, 2, 1) = 0", "taken(2, 6) = -11", "thing(0, 3, 4) = 0",
            "taken(3, 6) = -11", "house(1, 0, 0) = 1", "taken(0, 6) = -11");
        e.test(40, "30 .. 34 THINGS",
            "thing(0, 0, 0..4)", "taken(30, 0) = 0", "taken(31, 0) = 1", "taken(32, 0) = 2", "taken(33, 0) = 3",
            "taken(34, 0) = 4", "taken(35, 0) = -12");
        e.test(40, "taken for 0 .. 5 a THING of that KIND",
            "thing(0, 0, 0) = 0", "thing(10, 0, 0) = 1", "thing(20, 0, 0) = 2", "thing(30, 0, 0) = 3",
            "thing(40, 0, 0) = 4", "taken(30, 0) = 0", "taken(31, 1) = 1", "taken(32, 2) = 2", "taken(33, 3) = 3",
            "taken(34, 4) = 4", "new", "thing(59, 0, 0) = 0", "taken(30, 5) = 0");
        e.test(40, "(also of one that is one)",
            "thing(9, 0, 0) = 0", "thing(19, 0, 0) = 1", "thing(29, 0, 0) = 2", "thing(39, 0, 0) = 3",
            "thing(49, 0, 0) = 4", "taken(31, 0) = 1", "taken(32, 0) = 2", "taken(33, 0..1) = 3",
            "taken(34, 0|2) = 4", "taken(30, 1..5) = -13", "taken(31, 2..5) = -13", "taken(32, 1|3|4|5) = -13",
            "taken(33, 2|4|5) = -13", "taken(34, 1|3|5) = -13", "new", "thing(50, 0, 0) = 0", "taken(30, 0) = 0",
            "taken(30, 1..4) = -13");
        e.test(40, "its number",
            "thing(50, 7, 0) = 0", "thing(50, 8, 0) = 1", "taken(30, 5) = 0", "taken(31, 5) = 1", "taken(31, 0) = 1",
            "image() = 2", "thing(50, 8, 0) = 2", "taken(32, 5) = 2", "back() = 2", "taken(32, 5) = -11");
        e.test(40, "6 a CELL: 1 it has a NET, 0 a FAN alone",
            "house(1, 7, 1) = 0", "taken(7, 6) = 1", "house(2, 7, 1) = 0", "taken(7, 6) = 1", "house(1, 7, 0) = 1",
            "taken(7, 6) = 0", "house(2, 7, 0) = 1", "taken(7, 6) = -11");
    }

    private void takenRefused() {
        e.test(40, "What is asked changes nothing, but where it is told",
            "house(1, 7, 1) = 0", "thing(30, 3, 1) = 0", "taken(7, 6) = 1", "taken(7, 6) = 1", "taken(30, 1) = 0",
            "taken(30, 0) = 0", "told(0, 2) = 3", "count(2) = bits(7)", "count(0) = 1");
        e.test(40, "BAD: kind", "house(1, 0, 1) = 0", "thing(0, 0, 4) = 0", "taken(0|30|1|35, -1|7|8|MIN|MAX) = BAD");
        e.test(40, "-12: i", "thing(0, 0, 0..4)", "taken(-1|35|36|MIN|MAX, 0..6) = -12", "taken(34, 0) = 4");
        e.test(40, "-11: nothing lies there",
            "taken(0..29, 0) = -11", "taken(0|29, 0..6) = -11", "taken(30..34, 0..6) = -11", "thing(0, 0, 0) = 0",
            "taken(31..34, 0) = -11", "taken(0, 6) = -11");
        e.test(40, "-13 of another sort or KIND",
            "house(1, 0, 1) = 0", "house(2, 29, 1) = 0", "thing(10, 0, 0) = 0", "taken(0|29, 0..5) = -13",
            "taken(30, 6) = -13", "taken(30, 2..5) = -13", "taken(30, 0..1) = 0");
        e.test(40, "-13", "house(2, 7, 1) = 0", "taken(7, 0..5) = -13", "taken(7, 6) = 0");
        e.test(40, "REFUSALS, of several the first one told",
            "taken(35, 7) = BAD", "taken(-1, -1) = BAD", "taken(5, 7) = BAD", "taken(30, 7) = BAD",
            "taken(35, 6) = -12", "taken(30, 6) = -11", "taken(5, 0) = -11");
    }
}

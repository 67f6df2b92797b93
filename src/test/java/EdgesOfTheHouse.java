/** Sentences of promises 1 to 5: a new object, the house, THE STEP, THE TAPE. */
final class EdgesOfTheHouse {
    private static final String LAW = "blows 1;worth 2;hands 3;";
    private final Edges e;

    private EdgesOfTheHouse(Edges e) {
        this.e = e;
    }

    static void tell(Edges e) {
        EdgesOfTheHouse all = new EdgesOfTheHouse(e);
        all.newObject();
        all.constants();
        all.house();
        all.houseRefused();
        all.set();
        all.count();
        all.feed();
        all.feedRefused();
    }

    private void newObject() {
        e.test(1, "An empty house",
            "count(0..4) = 0", "count(7) = 0", "told(0..4, 0) = -5", "inside(0, 0..29) = 0", "taken(0..29, 6) = -11",
            "taken(30..34, 0) = -11", "back() = STATE");
        e.test(1, "a CELL may have a WALL, a NET, a FAN (at first none)",
            "count(1..3) = 0", "house(0..2, 0..29, 0) = 0", "new", "house(0..2, 3, 1) = 0", "count(1..3) = 8");
        e.test(1, "THE STEP (0 .. 99; 0 at first)", "count(4) = 0", "set(0) = 0");
        e.test(1, "TEXT 0, at first, and THE LAW: blows 4 ; worth 5 ; hands 1 ;",
            "count(5) = 1", "count(6) = 0", "asks(0, 0|14|29, 0|99, 0|99) = 4", "asks(1, 0|14|29, 0|99, 0|99) = 5",
            "asks(2, 0|14|29, 0|99, 0|99) = 1", "force(1) = BAD", "force(0) = 0");
        e.test(1, "or missing (as all are at first)",
            "cell(0..3, 0, 0) = -11", "judge(0..3, 0) = -11", "copy(0..3, 0, 0..3, 0, 0) = -11",
            "thingsBy(0..3, 0..2, 0, 0) = -11");
        e.test(1, "An object is used for at most 512 calls after it has been made",
            "thing(0, 14, 1) = 0", "asks(0, 0..29, 0, 0..14) = 4", "wait(0, 0..1)", "mean(0..29, 40, 4014, 0)",
            "search(0, 0..27, 1)", "told(0, 0) = 14");
    }

    private void constants() {
        e.test(2, "NONE = -1, BAD = -2, STATE = -3, FULL = -4", "NONE = -1", "BAD = -2", "STATE = -3", "FULL = -4");
        e.test(27, "public static final long NO = -4611686018427387904L", "NO = -4611686018427387904");
    }

    private void house() {
        e.test(2, "A CELL has a WALL (what 0)",
            "house(0, 3, 1) = 0", "count(1) = bits(3)", "count(2..3) = 0", "thing(0, 3, 0) = BAD");
        e.test(2, "a NET (1)", "house(1, 3, 1) = 0", "count(2) = bits(3)", "count(1|3) = 0", "taken(3, 6) = 1");
        e.test(2, "a FAN (2)", "house(2, 3, 1) = 0", "count(3) = bits(3)", "count(1..2) = 0", "taken(3, 6) = 0");
        e.test(2, "(is 1), or not (0)",
            "house(0..2, 3, 1) = 0", "count(1..3) = bits(3)", "house(0, 3, 0) = 1", "count(1) = 0",
            "count(2..3) = bits(3)", "house(1, 3, 0) = 1", "count(2) = 0", "count(3) = bits(3)", "house(2, 3, 0) = 1",
            "count(3) = 0");
        e.test(2, "what was",
            "house(0..2, 7, 0) = 0", "house(0..2, 7, 1) = 0", "house(0..2, 7, 1) = 1", "count(1..3) = bits(7)",
            "house(0..2, 7, 0) = 1", "house(0..2, 7, 0) = 0", "count(1..3) = 0");
        e.test(2, "CELLS 0 .. 29",
            "house(0..2, 0|29, 1) = 0", "count(1..3) = bits(0 29)", "house(0..2, 0|29, 0) = 1",
            "house(0..2, 1..28, 1) = 0", "count(1..3) = 536870910");
    }

    private void houseRefused() {
        e.test(2, "NONE: what", "house(-1|3|4|MIN|MAX, 0|29, 0|1) = NONE", "count(1..3) = 0");
        e.test(2, "NONE there is no such thing", "house(3, 0, 1) = NONE", "house(2, 0, 1) = 0");
        e.test(2, "BAD: CELL", "house(0..2, -1|30|31|32|61|64|MIN|MAX, 0|1) = BAD", "count(1..3) = 0");
        e.test(2, "BAD: CELL, is",
            "house(0..2, 0|29, -1|2|3|MIN|MAX) = BAD", "count(1..3) = 0", "house(0..2, 0, 1) = 0",
            "house(0..2, 0, -1|2|3|MIN|MAX) = BAD", "count(1..3) = 1");
        e.test(2, "STATE: a THING is there",
            "thing(0, 0, 4) = 0", "thing(0, 29, 1) = 1", "thing(0, 7, 0) = 2", "thing(0, 7, 0) = 3",
            "thing(0, 12, 4) = 4", "house(0, 0|29|7|12, 1) = STATE", "count(1) = 0", "put(4, 13, 4) = 12",
            "house(0, 13, 1) = STATE", "house(0, 12, 1) = 0", "count(1) = bits(12)", "new", "thing(0, 8, 1) = 0",
            "run(1) = 0", "house(0, 9, 1) = STATE", "house(0, 8, 1) = 0", "house(0, 10, 1) = 0", "new", "image() = 0",
            "thing(0, 8, 1) = 0", "back() = 0", "house(0, 8, 1) = 0");
        e.test(2, "(of a WALL that comes)",
            "thing(0, 7, 4) = 0", "house(0, 7, 0) = 0", "house(1..2, 7, 1) = 0", "house(1..2, 7, 1) = 1",
            "house(1..2, 7, 0) = 1", "house(0, 7, 1) = STATE", "count(1) = 0");
        e.test(2, "REFUSALS, of several the first one told",
            "house(3, 30, 2) = NONE", "house(-1, -1, 1) = NONE", "house(3, 0, 2) = NONE", "thing(0, 7, 4) = 0",
            "house(3, 7, 1) = NONE", "house(0, 7, 2) = BAD");
        e.test(2, "They change nothing, but where it is told",
            "thing(0, 7, 1) = 0", "house(0..2, 8, 1) = 0", "house(3, 8, 0) = NONE", "house(0, 30, 0) = BAD",
            "house(0, 8, 2) = BAD", "house(0, 7, 1) = STATE", "count(1..3) = bits(8)", "told(0, 0) = 7");
    }

    private void set() {
        e.test(3, "THE STEP becomes v: which was",
            "set(7) = 0", "set(99) = 7", "count(4) = 99", "set(0) = 99", "set(0) = 0", "set(1) = 0", "count(4) = 1");
        e.test(3, "THE STEP (0 .. 99; 0 at first)",
            "set(99) = 0", "set(100) = BAD", "count(4) = 99", "set(-1) = BAD", "set(0) = 99", "set(-1) = BAD",
            "set(98) = 0");
        e.test(3, "BAD", "set(5) = 0", "set(-1|100|101|MIN|MAX) = BAD", "count(4) = 5");
        e.test(3, "They change nothing, but where it is told",
            "set(42) = 0", "set(100) = BAD", "set(-1) = BAD", "set(43) = 42");
    }

    private void count() {
        e.test(4, "0 THINGS",
            "count(0) = 0", "thing(0, 0, 0) = 0", "count(0) = 1", "thing(0, 0, 0|0|0|0)", "count(0) = 5",
            "thing(0, 0, 0) = FULL", "count(0) = 5");
        e.test(4, "1 WALLS",
            "house(0, 0|5|29, 1) = 0", "count(1) = bits(0 5 29)", "house(0, 5, 0) = 1", "count(1) = bits(0 29)");
        e.test(4, "2 NETS",
            "house(1, 0|5|29, 1) = 0", "count(2) = bits(0 5 29)", "house(1, 0, 0) = 1", "count(2) = bits(5 29)");
        e.test(4, "3 FANS (bits of CELLS)",
            "house(2, 0|5|29, 1) = 0", "count(3) = bits(0 5 29)", "house(2, 29, 0) = 1", "count(3) = bits(0 5)",
            "house(2, 0..29, 1)", "count(3) = 1073741823");
        e.test(4, "4 THE STEP",
            "count(4) = 0", "set(99) = 0", "count(4) = 99", "set(3) = 99", "run(2) = 0", "count(4) = 5");
        e.test(4, "5 TEXTS",
            "count(5) = 1", "text '" + LAW + "' = 1", "count(5) = 2", "text 'blows ^;'", "count(5) = 2");
        e.test(4, "6 THE LAW",
            "count(6) = 0", "text '" + LAW + "' = 1", "count(6) = 0", "force(1) = 0", "count(6) = 1");
        e.test(4, "7 bytes of THE TAPE",
            "count(7) = 0", "feed(1, 9, 9, 9, 9, 9) = 1", "count(7) = 1", "tape '" + "a".repeat(159) + "'",
            "count(7) = 160");
        e.test(4, "BAD", "count(-1|8|9|MIN|MAX) = BAD");
        e.test(4, "What is asked changes nothing, but where it is told",
            "thing(0, 0, 1) = 0", "tape 'ab'", "count(0..7)", "count(0) = 1", "count(7) = 2", "count(4) = 0");
    }

    private void feed() {
        e.test(5, "The first n (1 .. 5) of five bytes",
            "feed(1, 98, 33, 33, 33, 33) = 1", "feed(2, 108, 111, 33, 33, 33) = 3",
            "feed(3, 119, 115, 32, 33, 33) = 6", "feed(4, 49, 59, 119, 111, 33) = 10",
            "feed(5, 114, 116, 104, 32, 50) = 15", "tape ';hands 3;'", "text() = 1", "force(1) = 0",
            "asks(0, 0, 0, 0) = 1", "asks(1, 0, 0, 0) = 2", "asks(2, 0, 0, 0) = 3");
        e.test(5, "(0 .. 255 each)",
            "feed(5, 0, 255, 0, 255, 0) = 5", "feed(5, 255, 0, 255, 0, 255) = 10", "feed(1, 0, 0, 0, 0, 0) = 11");
        e.test(5, "come behind THE TAPE's, one by one",
            "feed(5, 32, 32, 32, 32, 32) = 5", "feed(2, 98, 108, 0, 0, 0) = 7", "feed(3, 111, 119, 115, 0, 0) = 10",
            "text() = -110");
        e.test(5, "how many it has",
            "feed(1..5, 32, 32, 32, 32, 32)", "count(7) = 15", "feed(5, 1, 2, 3, 4, 5) = 20");
        e.test(5, "(160 bytes at most)",
            "tape '" + "\n".repeat(155) + "'", "feed(5, 1, 2, 3, 4, 5) = 160", "feed(1, 32, 32, 32, 32, 32) = FULL");
    }

    private void feedRefused() {
        e.test(5, "BAD: n", "feed(-1|0|6|7|MIN|MAX, 32, 32, 32, 32, 32) = BAD", "count(7) = 0");
        e.test(5, "any of the five",
            "feed(1|5, -1|256|MIN|MAX, 0, 0, 0, 0) = BAD", "feed(1|5, 0, -1|256|MIN|MAX, 0, 0, 0) = BAD",
            "feed(1|5, 0, 0, -1|256|MIN|MAX, 0, 0) = BAD", "feed(1|5, 0, 0, 0, -1|256|MIN|MAX, 0) = BAD",
            "feed(1|5, 0, 0, 0, 0, -1|256|MIN|MAX) = BAD", "count(7) = 0");
        e.test(5, "FULL: they have not all room",
            "tape '" + " ".repeat(158) + "'", "feed(3|4|5, 1, 1, 1, 1, 1) = FULL",
            "feed(2, 32, 32, 32, 32, 32) = 160", "feed(1..5, 32, 32, 32, 32, 32) = FULL");
        e.test(5, "(none comes)",
            "tape '" + " ".repeat(158) + "'", "feed(3, 33, 33, 33, 33, 33) = FULL", "count(7) = 158",
            "text() = -258");
        e.test(5, "REFUSALS, of several the first one told",
            "tape '" + " ".repeat(160) + "'", "feed(6, 1, 1, 1, 1, 1) = BAD", "feed(1, 1, 1, 1, 1, 256) = BAD",
            "feed(5, -1, 1, 1, 1, 1) = BAD", "feed(1, 1, 1, 1, 1, 1) = FULL");
        e.test(5, "They change nothing, but where it is told",
            "tape 'blows 4'", "feed(0, 33, 33, 33, 33, 33) = BAD", "feed(2, 33, 33, 33, 33, 256) = BAD",
            "count(7) = 7", "text() = -107");
    }
}

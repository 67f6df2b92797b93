/** Promises 36 to 40: the host. */
public final class HostTest {
    private static final Dues d = new Dues();
    private static final int MIN = Integer.MIN_VALUE, MAX = Integer.MAX_VALUE;

    public static void main(String[] args) {
        promise36Sheet();
        promise37Cell();
        promise38Copy();
        promise39ThingsBy();
        promise39Outside();
        promise40Taken();
        d.end();
    }

    private static void promise36Sheet() {
        WhereTheSpoonWent x = new WhereTheSpoonWent();
        for (int sort = 0; sort < 3; sort++) {
            d.due("sheet: none yet", x.cell(sort, 0, 0), -11);
            d.due("sheet", x.sheet(sort, sort, 40), 1);
            d.due("sheet: the last", x.cell(sort, 39, 0), 1);
            d.due("sheet: behind the last", x.cell(sort, 40, 0), -12);
            d.due("sheet: its sort", x.thingsBy(sort, sort, 0, 0), 0);
            d.due("sheet: no other sort", x.thingsBy(sort, (sort + 1) % 3, 0, 0), -13);
        }
        d.due("sheet: of none", x.sheet(3, 0, 0), 1);
        d.due("sheet: of none", x.cell(3, 0, 0), -12);
        d.due("sheet: SHEET", x.sheet(4, 9, 99), -2);
        d.due("sheet: SHEET -1", x.sheet(-1, 0, 0), -2);
        d.due("sheet: sort", x.sheet(0, 3, 0), -2);
        d.due("sheet: sort -2", x.sheet(0, -2, 0), -2);
        d.due("sheet: sort ahead of n", x.sheet(0, 3, -1), -2);
        d.due("sheet: n 41", x.sheet(0, 0, 41), -2);
        d.due("sheet: n MAX", x.sheet(0, 0, MAX), -2);
        d.due("sheet: n -1", x.sheet(0, 0, -1), -14);
        d.due("sheet: n MIN", x.sheet(0, 0, MIN), -14);
        d.due("sheet: refused, it stays", x.cell(0, 39, 0), 1);
        d.due("sheet: missing", x.sheet(0, -1, 41), 1);
        d.due("sheet: missing", x.cell(0, 0, 0), -11);
        d.due("sheet: missing again", x.sheet(0, -1, MIN), 1);
        x.thing(0, 7, 4);
        Dues.row(x, 0, 7);
        d.due("sheet: as it was", x.judge(0, 0), -1);
        x.sheet(0, 2, 1);
        d.due("sheet: all 0", x.judge(0, 0), 0);
        x.put(0, 0, 4);
        d.due("sheet: all 0", x.judge(0, 0), -1);
        Dues.row(x, 1, 3, 3);
        x.sheet(1, 2, 1);
        x.sheet(1, 2, 2);
        x.thing(0, 0, 4);
        d.due("sheet: all 0 behind the shorter one, too", x.judge(1, 0), -1);
    }

    /** Whether a number is this, as of a THING in that CELL. */
    private static void holds(int sort, int v, int cell) {
        WhereTheSpoonWent x = new WhereTheSpoonWent();
        x.thing(0, Math.max(cell, 0), 4);
        x.sheet(2, sort, 1);
        d.due("cell: " + v, x.cell(2, 0, v), 1);
        d.due("cell: sort " + sort + " of " + v, x.judge(2, 0), cell < 0 ? 0 : -1);
    }

    private static void promise37Cell() {
        for (int sort = 0; sort < 3; sort++) {
            holds(sort, 0, 0);
            holds(sort, 29, 29);
            holds(sort, 128, -1);
            holds(sort, -1, -1);
            holds(sort, 256 + 7, sort < 1 ? 7 : -1);
            holds(sort, 7 - 256, sort < 1 ? 7 : -1);
            holds(sort, 65536 + 7, sort < 2 ? 7 : -1);
            holds(sort, MIN + 7, sort < 2 ? 7 : -1);
            holds(sort, MIN, sort < 2 ? 0 : -1);
        }
        WhereTheSpoonWent x = new WhereTheSpoonWent();
        x.sheet(0, 0, 3);
        d.due("cell: SHEET", x.cell(4, 9, 0), -2);
        d.due("cell: SHEET -1", x.cell(-1, 0, 0), -2);
        d.due("cell: missing ahead of the place", x.cell(1, -1, 0), -11);
        d.due("cell: place 3", x.cell(0, 3, 0), -12);
        d.due("cell: place -1", x.cell(0, -1, 0), -12);
        d.due("cell: place MAX", x.cell(0, MAX, 0), -12);
        d.due("cell: place MIN", x.cell(0, MIN, 0), -12);
        d.due("cell: place 2", x.cell(0, 2, 99), 1);
    }

    /** The CELLS of so many THINGS, as a SHEET should tell them. */
    private static WhereTheSpoonWent told(int... cells) {
        WhereTheSpoonWent x = new WhereTheSpoonWent();
        for (int c : cells) {
            x.thing(0, c, 4);
        }
        return x;
    }

    private static void promise38Copy() {
        WhereTheSpoonWent x = told(1, 1, 2, 3, 4);
        Dues.row(x, 0, 1, 2, 3, 4, 5);
        d.due("copy: onto itself, up", x.copy(0, 0, 0, 1, 4), 4);
        d.due("copy: as they were", x.judge(0, 0), -1);
        x = told(2, 3, 4, 5, 5);
        Dues.row(x, 0, 1, 2, 3, 4, 5);
        d.due("copy: onto itself, down", x.copy(0, 1, 0, 0, 4), 4);
        d.due("copy: as they were", x.judge(0, 0), -1);
        x = told(9, 2, 3, 9);
        Dues.row(x, 0, 1, 2, 3);
        Dues.row(x, 1, 9, 9, 9, 9);
        d.due("copy: to another", x.copy(0, 1, 1, 1, 2), 2);
        d.due("copy: to another", x.judge(1, 0), -1);
        d.due("copy: none", x.copy(0, 0, 1, 0, 0), 0);
        d.due("copy: none, from the end", x.copy(0, 3, 1, 4, 0), 0);
        d.due("copy: none, from behind the end", x.copy(0, 4, 1, 0, 0), -12);
        d.due("copy: none, to behind the end", x.copy(0, 0, 1, 5, 0), -12);
        d.due("copy: still", x.judge(1, 0), -1);
        d.due("copy: too many of the one", x.copy(0, 0, 1, 0, 4), -12);
        d.due("copy: too many for the other", x.copy(0, 0, 1, 2, 3), -12);
        d.due("copy: i -1", x.copy(0, -1, 1, 0, 1), -12);
        d.due("copy: j -1", x.copy(0, 0, 1, -1, 1), -12);
        d.due("copy: n -1", x.copy(0, 1, 1, 1, -1), -12);
        d.due("copy: n MAX", x.copy(0, 1, 1, 1, MAX), -12);
        d.due("copy: i MAX", x.copy(0, MAX, 1, 0, 1), -12);
        d.due("copy: i MIN", x.copy(0, MIN, 1, 0, MAX), -12);
        d.due("copy: SHEET", x.copy(4, 0, 3, 0, 1), -2);
        d.due("copy: other SHEET ahead of the missing one", x.copy(3, 0, 4, 0, 1), -2);
        d.due("copy: SHEET -1", x.copy(-1, 0, 0, 0, 1), -2);
        d.due("copy: other -1", x.copy(0, 0, -1, 0, 1), -2);
        d.due("copy: missing", x.copy(3, 0, 0, 0, 1), -11);
        d.due("copy: other missing", x.copy(0, 0, 3, -1, 1), -11);
        x.sheet(2, 1, 4);
        d.due("copy: unlike, ahead of the place", x.copy(0, -1, 2, 0, 1), -13);
        d.due("copy: unlike", x.copy(2, 0, 0, 0, 1), -13);
        x.sheet(3, 1, 2);
        d.due("copy: shorts", x.copy(2, 2, 3, 0, 2), 2);
        d.due("copy: refused, still", x.judge(1, 0), -1);
    }

    private static void promise39ThingsBy() {
        WhereTheSpoonWent x = new WhereTheSpoonWent();
        x.house(0, 5, 1);
        Dues.row(x, 0, 99, 34, 12, 3, 60, 0, 0, 0, 5, 0, 0, 30, 0, 0, 0, 5, 58, 29, 4);
        d.due("thingsBy: two of five", x.thingsBy(0, 2, 1, 5), 1);
        d.due("thingsBy: the first", x.told(0, 0), 12);
        d.due("thingsBy: its way", x.told(0, 1), 3);
        d.due("thingsBy: its kind", x.told(0, 2), 3);
        d.due("thingsBy: its more", x.told(0, 3), 4);
        d.due("thingsBy: from 4", x.thingsBy(0, 2, 4, 5), 1);
        d.due("thingsBy: the last", x.told(1, 0), 29);
        d.due("thingsBy: none", x.thingsBy(0, 2, 1, 0), 0);
        x.thingsBy(0, 2, 1, 1);
        x.thingsBy(0, 2, 1, 1);
        d.due("thingsBy: the fifth", x.thingsBy(0, 2, 16, 1), 1);
        d.due("thingsBy: FULL, left out", x.thingsBy(0, 2, 1, 1), 0);
        d.due("thingsBy: five", x.count(0), 5);
        x = new WhereTheSpoonWent();
        x.sheet(0, 0, 15);
        x.sheet(1, 1, 15);
        x.cell(0, 1, 7);
        x.cell(1, 1, 8);
        x.thing(0, 0, 0);
        d.due("thingsBy: bytes", x.thingsBy(0, 0, 0, 2), 2);
        d.due("thingsBy: shorts, FULL", x.thingsBy(1, 1, 0, 5), 2);
        d.due("thingsBy: bytes", x.told(1, 0), 7);
        d.due("thingsBy: shorts", x.told(3, 0), 8);
    }

    private static void promise39Outside() {
        WhereTheSpoonWent x = new WhereTheSpoonWent();
        x.sheet(0, 2, 7);
        d.due("thingsBy: SHEET", x.thingsBy(4, 2, 0, 1), -2);
        d.due("thingsBy: SHEET -1", x.thingsBy(-1, 2, 0, 1), -2);
        d.due("thingsBy: sort 3", x.thingsBy(0, 3, 0, 1), -2);
        d.due("thingsBy: sort -1", x.thingsBy(0, -1, 0, 1), -2);
        d.due("thingsBy: n 6", x.thingsBy(0, 2, 0, 6), -2);
        d.due("thingsBy: n -1", x.thingsBy(0, 2, 0, -1), -2);
        d.due("thingsBy: n ahead of the missing one", x.thingsBy(1, 2, 0, 6), -2);
        d.due("thingsBy: missing", x.thingsBy(1, 0, -1, 1), -11);
        d.due("thingsBy: another sort, ahead of the place", x.thingsBy(0, 1, -1, 1), -13);
        d.due("thingsBy: none yet", x.count(0), 0);
        d.due("thingsBy: place -1", x.thingsBy(0, 2, -1, 1), -12);
        d.due("thingsBy: place 5", x.thingsBy(0, 2, 5, 1), -12);
        d.due("thingsBy: place 7", x.thingsBy(0, 2, 7, 1), -12);
        d.due("thingsBy: place MAX", x.thingsBy(0, 2, MAX, 5), -12);
        d.due("thingsBy: place MIN", x.thingsBy(0, 2, MIN, 5), -12);
        d.due("thingsBy: place -3, the second is there", x.thingsBy(0, 2, -3, 2), -12);
        d.due("thingsBy: none yet", x.count(0), 0);
        d.due("thingsBy: place 4", x.thingsBy(0, 2, 4, 1), 1);
        d.due("thingsBy: the third is outside", x.thingsBy(0, 2, 0, 3), -12);
        d.due("thingsBy: what stood ahead came", x.count(0), 3);
    }

    private static void promise40Taken() {
        WhereTheSpoonWent x = new WhereTheSpoonWent();
        boolean[][] is = {
            {true, false, false, false, false, false},
            {true, true, false, false, false, false},
            {true, false, true, false, false, false},
            {true, true, false, true, false, false},
            {true, false, true, false, true, false},
            {true, false, false, false, false, true},
        };
        x.image();
        for (int kind = 0; kind < 6; kind++) {
            x.back();
            x.thing(0, 0, 0);
            x.thing(10 * kind, 0, 0);
            for (int as = 0; as < 6; as++) {
                d.due("taken: " + kind + " for " + as, x.taken(31, as), is[kind][as] ? 1 : -13);
            }
            d.due("taken: " + kind + " for a cell", x.taken(31, 6), -13);
        }
        x.house(1, 0, 1);
        x.house(2, 29, 1);
        x.house(1, 7, 1);
        x.house(2, 7, 1);
        x.house(0, 8, 1);
        d.due("taken: a net", x.taken(0, 6), 1);
        d.due("taken: a fan", x.taken(29, 6), 0);
        d.due("taken: both", x.taken(7, 6), 1);
        d.due("taken: a wall is nothing", x.taken(8, 6), -11);
        for (int kind = 0; kind < 6; kind++) {
            d.due("taken: a cell for a thing", x.taken(7, kind), -13);
            d.due("taken: nothing", x.taken(1, kind), -11);
            d.due("taken: no such thing", x.taken(32, kind), -11);
        }
        d.due("taken: no such thing for a cell", x.taken(34, 6), -11);
        d.due("taken: the first thing", x.taken(30, 0), 0);
        d.due("taken: kind ahead of the place", x.taken(35, 7), -2);
        d.due("taken: kind -1", x.taken(0, -1), -2);
        d.due("taken: place 35", x.taken(35, 0), -12);
        d.due("taken: place -1", x.taken(-1, 6), -12);
        d.due("taken: place MIN", x.taken(MIN, 6), -12);
        d.due("taken: place MAX", x.taken(MAX, 0), -12);
    }
}

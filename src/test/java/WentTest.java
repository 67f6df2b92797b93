/** Promises 24 to 31: which way it went, told places. */
public final class WentTest {
    private static final Dues d = new Dues();
    private static final int MIN = Integer.MIN_VALUE, MAX = Integer.MAX_VALUE;
    private static final long NO = -4611686018427387904L;

    public static void main(String[] args) {
        promise24Can();
        promise25Look();
        promise26Went();
        promise27Search();
        promise28Judge();
        promise29Times();
        promise30Laws();
        promise31Film();
        d.end();
    }

    private static WhereTheSpoonWent with(int kindMore, int c, int goes) {
        WhereTheSpoonWent x = new WhereTheSpoonWent();
        d.due("a thing", x.thing(kindMore, c, goes), 0);
        return x;
    }

    /** In 14, with walls above and left of it and a fan to the right: of five two stay, two go 15. */
    private static WhereTheSpoonWent twoAndTwo() {
        WhereTheSpoonWent x = with(50, 14, 0);
        x.house(0, 8, 1);
        x.house(0, 13, 1);
        x.house(2, 14, 1);
        Dues.text(x, "blows 1;worth 0;hands 0;");
        x.force(1);
        return x;
    }

    private static void promise24Can() {
        WhereTheSpoonWent x = with(0, 14, 3);
        d.due("can: now", x.can(0, 0), Dues.bits(14));
        d.due("can: behind 1", x.can(0, 1), Dues.bits(8, 13, 14, 15, 20));
        d.due("can: behind 2", x.can(0, 2), Dues.bits(2, 12, 14, 16, 26));
        d.due("can: behind 3", x.can(0, 3), Dues.bits(2, 12, 14, 17, 26));
        d.due("can: in thought", x.told(0, 1), 3);
        d.due("can: with walls", twoAndTwo().can(0, 1), Dues.bits(14, 15, 20));
        d.due("can: thing ahead of n", x.can(1, 41), -5);
        d.due("can: thing -1", x.can(-1, 0), -5);
        d.due("can: n", x.can(0, 41), -7);
        d.due("can: n -1", x.can(0, -1), -7);
        d.due("can: n MAX", x.can(0, MAX), -7);
        x.house(1, 14, 1);
        d.due("can: in a net", x.can(0, 40), Dues.bits(14));
        x = with(31, 14, 0);
        x.set(1);
        d.due("can: from THE STEP", x.can(0, 1), Dues.bits(14));
        d.due("can: from THE STEP", x.can(0, 2), Dues.bits(8, 13, 14, 15, 20));
        x = with(0, 29, 0);
        d.due("can: cell 29", x.can(0, 1), Dues.bits(23, 28, 29));
    }

    private static void promise25Look() {
        WhereTheSpoonWent x = with(0, 14, 3);
        d.due("look: now", x.look(0, 0, 0), 14);
        d.due("look: now", x.look(0, 0, 1), 5);
        d.due("look: of like ones the first", x.look(0, 1, 0), 8);
        d.due("look: of like ones the first", x.look(0, 1, 1), 1);
        x = twoAndTwo();
        d.due("look: two and two", x.look(0, 1, 0), 14);
        d.due("look: two and two", x.look(0, 1, 1), 2);
        x.house(0, 20, 1);
        d.due("look: three", x.look(0, 1, 1), 3);
        x = with(0, 0, 4);
        d.due("look: a corner", x.look(0, 1, 0), 0);
        d.due("look: a corner", x.look(0, 1, 1), 3);
        x = with(0, 29, 4);
        d.due("look: the last corner", x.look(0, 1, 0), 29);
        x.put(0, 1, 0);
        d.due("look: cell 1", x.look(0, 1, 0), 1);
        d.due("look: cell 1", x.look(0, 1, 1), 2);
        d.due("look: thing ahead of n", x.look(1, 41, 2), -5);
        d.due("look: thing -1", x.look(-1, 0, 0), -5);
        d.due("look: n", x.look(0, 41, 0), -7);
        d.due("look: n -1", x.look(0, -1, 0), -7);
        d.due("look: what", x.look(0, 0, 2), -7);
        d.due("look: what -1", x.look(0, 0, -1), -7);
    }

    private static void promise26Went() {
        WhereTheSpoonWent x = with(0, 0, 2);
        d.due("went: now", x.went(0, 0, 0), 31);
        d.due("went: nowhere else", x.went(0, 0, 1), 0);
        d.due("went: the corner", x.went(0, 1, 0), Dues.bits(0, 3, 4));
        d.due("went: right", x.went(0, 1, 1), Dues.bits(1));
        d.due("went: down", x.went(0, 1, 6), Dues.bits(2));
        d.due("went: behind 2", x.went(0, 2, 6), Dues.bits(0));
        d.due("went: behind 2", x.went(0, 2, 1), Dues.bits(3));
        x = twoAndTwo();
        d.due("went: two and two", x.went(0, 1, 14), Dues.bits(0, 3));
        d.due("went: two and two", x.went(0, 1, 15), Dues.bits(1, 4));
        d.due("went: a wall", x.went(0, 1, 8), 0);
        d.due("went: thing ahead of n", x.went(1, 41, 30), -5);
        d.due("went: thing -1", x.went(-1, 0, 0), -5);
        d.due("went: n", x.went(0, 41, 0), -7);
        d.due("went: n -1", x.went(0, -1, 0), -7);
        d.due("went: cell", x.went(0, 0, 30), -7);
        d.due("went: cell -1", x.went(0, 0, -1), -7);
    }

    private static void search(String what, WhereTheSpoonWent x, int n, int above, int below) {
        d.due("search: " + what + ", above", x.search(0, n, 0), above);
        d.due("search: " + what + ", below", x.search(0, n, 1), below);
    }

    private static void promise27Search() {
        search("now", with(0, 14, 4), 0, 1, 1);
        search("five", with(0, 14, 4), 1, 3, 1);
        search("three", with(0, 0, 4), 1, 8, 5);
        search("two and two", twoAndTwo(), 1, 9, 5);
        WhereTheSpoonWent x = with(50, 14, 0);
        x.house(2, 14, 1);
        Dues.text(x, "blows 1;worth 0;hands 0;");
        x.force(1);
        search("two, then three", x, 1, 11, 5);
        x.house(0, 15, 1);
        x.house(0, 20, 1);
        x.house(0, 13, 1);
        search("four and one", x, 1, 6, 5);
        d.due("search: thing", x.search(1, 0, 0), NO);
        d.due("search: thing -1", x.search(-1, 0, 0), NO);
        d.due("search: n", x.search(0, 41, 0), NO);
        d.due("search: n -1", x.search(0, -1, 0), NO);
        d.due("search: part", x.search(0, 0, 2), NO);
        d.due("search: part -1", x.search(0, 0, -1), NO);
    }

    private static WhereTheSpoonWent three() {
        WhereTheSpoonWent x = with(0, 0, 1);
        x.thing(0, 14, 4);
        x.thing(0, 29, 0);
        return x;
    }

    private static void promise28Judge() {
        WhereTheSpoonWent x = three();
        Dues.row(x, 0, 2, 14, 17);
        Dues.row(x, 1, 0, 14);
        Dues.row(x, 2, 0, 14, 29, 0);
        d.due("judge: behind 2", x.judge(0, 2), -1);
        d.due("judge: behind 1", x.judge(0, 1), 0);
        x.cell(0, 2, 29);
        d.due("judge: the last one", x.judge(0, 2), 2);
        x.cell(0, 1, 13);
        d.due("judge: the first that is elsewhere", x.judge(0, 2), 1);
        x.cell(0, 0, 30);
        d.due("judge: no cell at all", x.judge(0, 2), 0);
        d.due("judge: sheet", x.judge(4, 41), -2);
        d.due("judge: sheet -1", x.judge(-1, 0), -2);
        d.due("judge: sheet MIN", x.judge(MIN, 0), -2);
        d.due("judge: missing ahead of n", x.judge(3, 41), -11);
        d.due("judge: too short, ahead of n", x.judge(1, 41), -2);
        d.due("judge: too long", x.judge(2, 0), -2);
        d.due("judge: n", x.judge(0, 41), -7);
        d.due("judge: n -1", x.judge(0, -1), -7);
        x.sheet(0, 0, 3);
        x.cell(0, 0, 256);
        x.cell(0, 1, 14);
        x.cell(0, 2, 29);
        d.due("judge: bytes", x.judge(0, 0), -1);
        x = new WhereTheSpoonWent();
        x.sheet(0, 1, 0);
        d.due("judge: no things", x.judge(0, 40), -1);
    }

    private static void promise29Times() {
        WhereTheSpoonWent x = three();
        Dues.row(x, 0, 2, 14, 17);
        Dues.row(x, 1, 0, 14);
        d.due("times: 2 and more", x.times(0), 1L << 2);
        d.due("times: sheet", x.times(4), NO);
        d.due("times: sheet -1", x.times(-1), NO);
        d.due("times: missing", x.times(2), NO);
        d.due("times: too short", x.times(1), NO);
        x = with(0, 5, 3);
        Dues.row(x, 0, 5);
        d.due("times: to and fro", x.times(0), 1L | 1L << 11 | 1L << 12 | 1L << 23 | 1L << 24 | 1L << 35 | 1L << 36);
        x.house(1, 3, 1);
        Dues.row(x, 0, 3);
        d.due("times: from 2 to 40", x.times(0), (1L << 41) - 4);
        Dues.row(x, 0, 29);
        d.due("times: never", x.times(0), 0);
        x.put(0, 29, 4);
        d.due("times: always", x.times(0), (1L << 41) - 1);
    }

    private static void promise30Laws() {
        WhereTheSpoonWent x = with(0, 14, 4);
        x.house(2, 14, 1);
        Dues.row(x, 0, 15);
        Dues.row(x, 1, 14);
        Dues.row(x, 2);
        Dues.text(x, "blows 1;worth 0;hands 0;");
        Dues.text(x, "blows 3;worth 0;hands 0;");
        Dues.text(x, "blows 1 + (step = 2);worth 0;hands 0;");
        d.due("laws: to the right", x.laws(0, 1), Dues.bits(1, 3));
        d.due("laws: none blows", x.laws(1, 1), Dues.bits(0));
        d.due("laws: now", x.laws(1, 0), 15);
        d.due("laws: now", x.laws(0, 0), 0);
        x.set(2);
        d.due("laws: behind 2", x.laws(0, 1), Dues.bits(1));
        x.force(2);
        d.due("laws: of no matter which is", x.laws(0, 1), Dues.bits(1));
        d.due("laws: the law stays", x.count(6), 2);
        d.due("laws: sheet", x.laws(4, 0), -2);
        d.due("laws: sheet -1", x.laws(-1, 0), -2);
        d.due("laws: missing", x.laws(3, 41), -11);
        d.due("laws: too short", x.laws(2, 41), -2);
        d.due("laws: n", x.laws(0, 41), -7);
        d.due("laws: n -1", x.laws(0, -1), -7);
        x = new WhereTheSpoonWent();
        x.sheet(0, 0, 0);
        d.due("laws: no things", x.laws(0, 5), 1);
    }

    private static void promise31Film() {
        WhereTheSpoonWent x = three();
        x.sheet(1, 0, 40);
        d.due("film", x.film(1, 2), 3);
        d.due("film: judged", x.judge(1, 2), -1);
        d.due("film: judged elsewhere", x.judge(1, 1), 0);
        Dues.row(x, 0, 2, 14, 17);
        d.due("film: ints", x.copy(1, 0, 0, 0, 3), 3);
        d.due("film: of three", x.cell(1, 3, 0), -12);
        d.due("film: of three", x.cell(1, 2, 0), 1);
        d.due("film: the places", x.judge(0, 2), -1);
        d.due("film: sheet", x.film(4, 41), -2);
        d.due("film: sheet -1", x.film(-1, 0), -2);
        d.due("film: n", x.film(2, 41), -7);
        d.due("film: n -1", x.film(2, -1), -7);
        d.due("film: refused, it is missing still", x.judge(2, 0), -11);
        d.due("film: a missing one", x.film(2, 40), 3);
        d.due("film: a missing one", x.judge(2, 40), -1);
        d.due("film: the things stay", x.told(0, 0), 0);
        x.thing(0, 7, 4);
        x.thing(0, 8, 4);
        d.due("film: five", x.film(3, 1), 5);
        d.due("film: five", x.judge(3, 1), -1);
        x = new WhereTheSpoonWent();
        d.due("film: no things", x.film(0, 0), 0);
        d.due("film: no things", x.judge(0, 0), -1);
        d.due("film: no things", x.cell(0, 0, 0), -12);
    }
}

/** Promises 1 to 8: the house, the law. */
public final class HouseTest {
    private static final Dues d = new Dues();
    private static final int MIN = Integer.MIN_VALUE, MAX = Integer.MAX_VALUE;

    public static void main(String[] args) {
        promise01NewObject();
        promise02House();
        promise03Set();
        promise04Count();
        promise05Feed();
        promise06Text();
        promise06Faults();
        promise06Open();
        promise07Force();
        promise08Asks();
        promise08Values();
        d.end();
    }

    private static void promise01NewObject() {
        WhereTheSpoonWent x = new WhereTheSpoonWent();
        int[] due = {0, 0, 0, 0, 0, 1, 0, 0};
        for (int what = 0; what < due.length; what++) {
            d.due("new: count(" + what + ")", x.count(what), due[what]);
        }
        d.due("new: told", x.told(0, 0), -5);
        d.due("new: back", x.back(), -3);
        d.due("new: image", x.image(), 0);
        for (int s = 0; s < 4; s++) {
            d.due("new: cell", x.cell(s, 0, 0), -11);
        }
        for (int c = 0; c < 30; c++) {
            d.due("new: blows", x.asks(0, c, 7, 12), 4);
            d.due("new: worth", x.asks(1, c, 7, 12), 5);
            d.due("new: hands", x.asks(2, c, 7, 12), 1);
            d.due("new: taken", x.taken(c, 6), -11);
        }
    }

    private static void promise02House() {
        WhereTheSpoonWent x = new WhereTheSpoonWent();
        for (int what = 0; what < 3; what++) {
            for (int c : new int[] {0, 13, 29}) {
                d.due("house: comes", x.house(what, c, 1), 0);
                d.due("house: is", x.house(what, c, 1), 1);
                d.due("house: goes", x.house(what, c, 0), 1);
                d.due("house: is not", x.house(what, c, 0), 0);
                d.due("house: the bit is gone", x.count(what + 1) >> c & 1, 0);
                d.due("house: comes again", x.house(what, c, 1), 0);
            }
        }
        for (int what = 1; what < 4; what++) {
            d.due("house: bits", x.count(what), Dues.bits(0, 13, 29));
        }
        d.due("house: what, ahead of all", x.house(3, 30, 2), -1);
        d.due("house: what below", x.house(-1, 0, 1), -1);
        d.due("house: what far", x.house(MAX, 0, 1), -1);
        d.due("house: cell", x.house(0, 30, 1), -2);
        d.due("house: cell below", x.house(1, -1, 1), -2);
        d.due("house: cell far", x.house(2, MIN, 1), -2);
        d.due("house: is 2", x.house(0, 1, 2), -2);
        d.due("house: is -1", x.house(0, 1, -1), -2);
        x.thing(0, 7, 4);
        d.due("house: is, ahead of the thing", x.house(0, 7, 2), -2);
        d.due("house: wall on a thing", x.house(0, 7, 1), -3);
        d.due("house: no wall under a thing", x.house(0, 7, 0), 0);
        d.due("house: net under a thing", x.house(1, 7, 1), 0);
        d.due("house: fan under a thing", x.house(2, 7, 1), 0);
        d.due("house: walls as they were", x.count(1), Dues.bits(0, 13, 29));
        x.run(1);
        x.put(0, 8, 4);
        d.due("house: wall where it was", x.house(0, 7, 1), 0);
        d.due("house: wall where it is", x.house(0, 8, 1), -3);
    }

    private static void promise03Set() {
        WhereTheSpoonWent x = new WhereTheSpoonWent();
        d.due("set(99)", x.set(99), 0);
        d.due("set(100)", x.set(100), -2);
        d.due("set(-1)", x.set(-1), -2);
        d.due("set(MIN)", x.set(MIN), -2);
        d.due("set(MAX)", x.set(MAX), -2);
        d.due("set(1)", x.set(1), 99);
        d.due("set(0)", x.set(0), 1);
        d.due("set: count", x.count(4), 0);
    }

    private static void promise04Count() {
        WhereTheSpoonWent x = new WhereTheSpoonWent();
        x.house(0, 1, 1);
        x.house(1, 2, 1);
        x.house(1, 29, 1);
        x.house(2, 3, 1);
        x.thing(0, 0, 0);
        x.thing(0, 0, 0);
        x.set(42);
        Dues.text(x, "blows 1;worth 2;hands 3;");
        x.force(1);
        x.feed(3, 1, 2, 3, 4, 5);
        d.due("count things", x.count(0), 2);
        d.due("count walls", x.count(1), 2);
        d.due("count nets", x.count(2), Dues.bits(2, 29));
        d.due("count fans", x.count(3), 8);
        d.due("count step", x.count(4), 42);
        d.due("count texts", x.count(5), 2);
        d.due("count law", x.count(6), 1);
        d.due("count bytes", x.count(7), 3);
        d.due("count(8)", x.count(8), -2);
        d.due("count(-1)", x.count(-1), -2);
        d.due("count(MIN)", x.count(MIN), -2);
    }

    private static void promise05Feed() {
        WhereTheSpoonWent x = new WhereTheSpoonWent();
        d.due("feed 1", x.feed(1, 0, 0, 0, 0, 0), 1);
        d.due("feed 2", x.feed(2, 255, 255, 255, 255, 255), 3);
        d.due("feed n 0", x.feed(0, 0, 0, 0, 0, 0), -2);
        d.due("feed n 6", x.feed(6, 0, 0, 0, 0, 0), -2);
        d.due("feed n -1", x.feed(-1, 0, 0, 0, 0, 0), -2);
        d.due("feed n MAX", x.feed(MAX, 0, 0, 0, 0, 0), -2);
        d.due("feed a", x.feed(1, 256, 0, 0, 0, 0), -2);
        d.due("feed b", x.feed(1, 0, -1, 0, 0, 0), -2);
        d.due("feed c", x.feed(1, 0, 0, 256, 0, 0), -2);
        d.due("feed d", x.feed(1, 0, 0, 0, -1, 0), -2);
        d.due("feed e", x.feed(1, 0, 0, 0, 0, 256), -2);
        for (int has = 8; has <= 158; has += 5) {
            d.due("feed to " + has, x.feed(5, 32, 32, 32, 32, 32), has);
        }
        d.due("feed 3 to 158", x.feed(3, 32, 32, 32, 32, 32), -4);
        d.due("feed BAD ahead of FULL", x.feed(3, 32, 32, 32, 32, 999), -2);
        d.due("feed: none came", x.count(7), 158);
        d.due("feed 2 to 158", x.feed(2, 32, 32, 32, 32, 32), 160);
        d.due("feed 1 to 160", x.feed(1, 32, 32, 32, 32, 32), -4);
        d.due("feed: text takes them", x.text(), -100);
        d.due("feed: empty", x.count(7), 0);
        x.feed(1, 'b', 'l', 'o', 'w', 's');
        x.feed(2, 'l', 'o', 'w', 's', ' ');
        x.feed(5, 'w', 's', '9', ';', 'w');
        d.due("feed: only the first n, behind the others", x.text(), -107);
    }

    private static void promise06Text() {
        WhereTheSpoonWent x = new WhereTheSpoonWent();
        d.due("text: first", Dues.text(x, "blows 4 ; worth 5 ; hands 1 ;"), 1);
        d.due("text: the tape is empty", x.count(7), 0);
        d.due("text: not yet the law", x.count(6), 0);
        d.due("text: no blanks", Dues.text(x, "blows4;worth5;hands1;"), 2);
        d.due("text: blanks all over", Dues.text(x, "\n blows\n4\n; worth 5 ;\n\nhands 1 ; \n"), 3);
        d.due("text: a fault", Dues.text(x, "blows 4 ;"), -109);
        d.due("text: the tape is empty by a fault", x.count(7), 0);
        d.due("text: no text by a fault", x.count(5), 4);
        d.due("text: empty", x.text(), -100);
        d.due("text: a law from outside blanks", Dues.text(x, "blows x;worth y;hands 0;"), 4);
        String whole = "blows 0;worth 0;hands 0";
        d.due("text: as long as the tape", Dues.text(x, whole + " ".repeat(159 - whole.length()) + ";"), 5);
        d.due("text: texts", x.count(5), 6);
        Dues.feedAll(x, "blows");
        d.due("text: FULL ahead of the fault", x.text(), -4);
        d.due("text: FULL, the tape stays", x.count(7), 5);
        x.force(4);
        d.due("text: says blows", x.asks(0, 3, 0, 0), 3);
        d.due("text: says worth", x.asks(1, 14, 0, 0), 2);
        d.due("text: says hands", x.asks(2, 14, 0, 0), 0);
    }

    private static void fault(String text, int place) {
        WhereTheSpoonWent x = new WhereTheSpoonWent();
        d.due("text " + text, Dues.text(x, text), place < 0 ? 1 : -100 - place);
    }

    /** Of an E ahead of which "blows " stands; -1: it has none. */
    private static void faultOf(String e, int place) {
        fault("blows " + e + ";worth 0;hands 0;", place < 0 ? -1 : 6 + place);
    }

    private static void promise06Faults() {
        fault("", 0);
        fault("   ", 3);
        fault("worth 5;", 0);
        fault("  worth 5;", 2);
        fault("blow 4;", 0);
        fault("blowss 4;", 0);
        fault("blowsx;", 0);
        fault("blows 4 worth", 8);
        fault("blows 4;hands 1;", 8);
        fault("blows 4;worth 5;hands 1", 23);
        fault("blows 4;worth 5;hands 1 \n", 25);
        fault("blows 4;worth 5;hands 1;;", 24);
        fault("blows 4;worth 5;hands 1; blows", 25);
        fault("blows 4;worth 5;hands 1; $", 25);
        fault("blows 4\t;", 7);
        fault("blows 4\r;", 7);
        fault("blows \u00e9;", 6);
        fault("blows \u0000;", 6);
        fault("Blows 4;", 0);
        fault("blows", 5);
        fault("blows ", 6);
        faultOf("4", -1);
        faultOf("", 0);
        faultOf("0009", -1);
        faultOf("00009", 0);
        faultOf("1 + 12345", 4);
        faultOf("1 12345", 2);
        faultOf("1 2", 2);
        faultOf("12x", 2);
        faultOf("cell+x+y+step+thing+more", -1);
        faultOf("kind", 0);
        faultOf("1 + steps", 4);
        faultOf("blows", 0);
        faultOf("1 + worth", 4);
        faultOf("()", 1);
        faultOf("(1", 2);
        faultOf("1)", 1);
        faultOf("1 +", 3);
        faultOf("+ 1", 0);
        faultOf("* 1", 0);
        faultOf("1 * * 2", 4);
        faultOf("1 - - 2", -1);
        faultOf("1 + - 2 * - 3", -1);
        faultOf("1 < 2 < 3", 6);
        faultOf("1 = 2 < 3", 6);
        faultOf("(1 < 2) = 3", -1);
        faultOf("1 < not 2", 4);
        faultOf("1 + not 2", 4);
        faultOf("- not 2", 2);
        faultOf("not - 2", -1);
        faultOf("not 1 < 2 and not 3 or not x = y", -1);
        faultOf("1 or", 4);
        faultOf("1 and ;", 6);
        faultOf("or 1", 0);
        faultOf("not", 3);
        faultOf("notx", 0);
        faultOf("not1", -1);
        faultOf("1 and and 2", 6);
        faultOf("1 > 2", 2);
        faultOf("1 == 2", 3);
        faultOf("1 <= 2", 3);
        faultOf("1 / 2", 2);
    }

    private static void promise06Open() {
        faultOf("(((((1)))))", -1);
        faultOf("((((((1))))))", 5);
        faultOf("(((((1))))) + (((((2)))))", -1);
        faultOf("(((((1)+(2))+(3))))", -1);
        faultOf("(((((1)+((2)))))", 9);
        faultOf("-----1", -1);
        faultOf("------1", 5);
        faultOf("-----1 - -----1", -1);
        faultOf("not not not not not x", -1);
        faultOf("not not not not not not x", 20);
        faultOf("not (- (not 1))", -1);
        faultOf("not (- (not (1)))", 12);
        faultOf("not (- (not -1))", 12);
        faultOf("not (- (not not 1))", 12);
        faultOf("not (- (-1) - (-1 + (-1)))", -1);
        faultOf("not (- (-1) - (-1 + (-(1))))", 22);
        faultOf("((((( not 1)))))", 6);
        faultOf("((((( 1 - 1)))))", -1);
        faultOf("((((( 1 - - 1)))))", 10);
    }

    private static void promise07Force() {
        WhereTheSpoonWent x = new WhereTheSpoonWent();
        d.due("force(1), none", x.force(1), -2);
        d.due("force(0)", x.force(0), 0);
        Dues.text(x, "blows 0;worth 7;hands 0;");
        Dues.text(x, "blows 0;worth 8;hands 0;");
        d.due("force(2)", x.force(2), 0);
        d.due("force: says", x.asks(1, 0, 0, 0), 8);
        d.due("force(1)", x.force(1), 2);
        d.due("force: says", x.asks(1, 0, 0, 0), 7);
        d.due("force(3)", x.force(3), -2);
        d.due("force(-1)", x.force(-1), -2);
        d.due("force(MAX)", x.force(MAX), -2);
        d.due("force: stays", x.count(6), 1);
    }

    private static void promise08Asks() {
        WhereTheSpoonWent x = new WhereTheSpoonWent();
        Dues.text(x, "blows step ; worth cell + 30 * y ; hands x + 2 * thing - more ;");
        x.force(1);
        d.due("asks blows", x.asks(0, 0, 3, 0), 3);
        d.due("asks blows, the bound", x.asks(0, 0, 99, 0), 4);
        d.due("asks worth", x.asks(1, 5, 0, 0), 5);
        d.due("asks worth, y", x.asks(1, 13, 0, 0), 73);
        d.due("asks worth, the bound", x.asks(1, 29, 0, 0), 99);
        d.due("asks hands", x.asks(2, 9, 0, 31), 8);
        d.due("asks hands, above", x.asks(2, 11, 0, 99), 9);
        d.due("asks hands, below", x.asks(2, 6, 0, 9), 0);
        d.due("asks part", x.asks(3, 0, 0, 0), -2);
        d.due("asks part below", x.asks(-1, 0, 0, 0), -2);
        d.due("asks cell", x.asks(0, 30, 0, 0), -2);
        d.due("asks cell below", x.asks(0, -1, 0, 0), -2);
        d.due("asks step", x.asks(0, 0, 100, 0), -2);
        d.due("asks step below", x.asks(0, 0, -1, 0), -2);
        d.due("asks more", x.asks(0, 0, 0, 100), -2);
        d.due("asks more below", x.asks(0, 0, 0, -1), -2);
    }

    /** What an E is, as worth says it; cell 16 (x 4, y 2), step 21, thing 3, more 8. */
    private static void value(String e, int due) {
        WhereTheSpoonWent x = new WhereTheSpoonWent();
        d.due(e + " is a text", Dues.text(x, "blows 1;worth " + e + ";hands 2;"), 1);
        x.force(1);
        d.due(e, x.asks(1, 16, 21, 38), due);
        d.due(e + ", blows", x.asks(0, 16, 21, 38), 1);
        d.due(e + ", hands", x.asks(2, 16, 21, 38), 2);
    }

    private static void promise08Values() {
        value("cell", 16);
        value("x", 4);
        value("y", 2);
        value("step", 21);
        value("thing", 3);
        value("more", 8);
        value("2 + 3 * 4", 14);
        value("2 * 3 + 4", 10);
        value("(2 + 3) * 4", 20);
        value("9 - 2 - 1", 6);
        value("9 - (2 - 1)", 8);
        value("- 2 * - 3", 6);
        value("- - 3", 3);
        value("10 - - 3", 13);
        value("0 - 1", 0);
        value("100", 99);
        value("99", 99);
        value("9999", 99);
        value("not 0", 1);
        value("not 7", 0);
        value("not not 7", 1);
        value("3 and 5", 1);
        value("4 and 3", 1);
        value("3 and 0", 0);
        value("0 and 3", 0);
        value("0 or 8", 1);
        value("8 or 0", 1);
        value("0 or 0", 0);
        value("- 1 or 0", 1);
        value("1 or 0 and 0", 1);
        value("0 and 0 or 1", 1);
        value("(1 or 0) and 0", 0);
        value("not 1 = 2", 1);
        value("(not 1) = 0", 1);
        value("not 0 and 0", 0);
        value("not (0 and 0)", 1);
        value("1 < 2", 1);
        value("2 < 2", 0);
        value("3 < 2", 0);
        value("0 - 3 < 2", 1);
        value("2 = 2", 1);
        value("2 = 3", 0);
        value("1 + 1 = 2", 1);
        value("3 < 2 + 2", 1);
        value("(1 < 2) + (1 < 2)", 2);
        value("9999 * 9999 * 9999 < 0", 1);
        value("9999 * 9999 * 9999 = 0 - 9999 * 9999 * 9999", 0);
        value("(9999 * 9999 * 22 < 0) + 10", 11);
        value("4096*4096*128 + 4096*4096*128 = 0", 1);
        value("not 4096*4096*256", 1);
        value("(step = 21 and cell < 17) * (x + y)", 6);
    }
}

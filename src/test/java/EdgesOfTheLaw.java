import java.util.ArrayList;
import java.util.Arrays;
import java.util.List;

/** Sentences of promises 6 to 8: texts, their faults, the law, what it says. */
final class EdgesOfTheLaw {
    private static final String LAW = "blows 1;worth 2;hands 3;";
    private static final String END = ";worth 0;hands 0;";
    private static final String DIVIDED = "blows 4;worth 5;hands 1;";
    private final Edges e;

    private EdgesOfTheLaw(Edges e) {
        this.e = e;
    }

    static void tell(Edges e) {
        EdgesOfTheLaw all = new EdgesOfTheLaw(e);
        all.text();
        all.textFull();
        all.words();
        all.numbersAndSigns();
        all.blanks();
        all.rulesOfTexts();
        all.rulesOfSums();
        all.faults();
        all.otherFaults();
        all.tooManyOpen();
        all.openTill();
        all.force();
        all.asks();
        all.asksRefused();
        all.bounds();
        all.values();
        all.names();
    }

    /** These rows behind such by which there are TEXTS 0 to 5. */
    private static String[] behindFive(String... rows) {
        List<String> all = new ArrayList<>();
        for (int t = 1; t < 6; t++) {
            all.add("text 'blows 4;worth " + (10 + t) + ";hands 0;' = " + t);
        }
        all.addAll(Arrays.asList(rows));
        return all.toArray(new String[0]);
    }

    private void text() {
        e.test(6, "THE TAPE, which is empty then",
            "text '" + LAW + "' = 1", "count(7) = 0", "text() = -100", "text '" + LAW + "' = 2");
        e.test(6, "(by a FAULT, too)",
            "text 'blows ^$ ;'", "count(7) = 0", "text '" + LAW + "' = 1", "text 'blows ^'", "count(7) = 0",
            "text() = -100");
        e.test(6, "(by a FAULT, too)",
            "text 'blows 2;worth 3;hands 4*^;'", "text 'blows 1 ^$'", "text 'blows 3;worth 7;hands 2;' = 1",
            "force(1) = 0", "asks(0, 0, 0, 0) = 3", "asks(1, 0, 0, 0) = 7", "asks(2, 0, 0, 0) = 2");
        e.test(6, "is a TEXT: its number",
            "text '" + LAW + "' = 1", "text 'blows ^' = -106", "text 'blows 0;worth 9;hands 0;' = 2", "force(2) = 0",
            "asks(1, 0, 0, 0) = 9", "force(1) = 2", "asks(1, 0, 0, 0) = 2", "count(5) = 3");
        e.test(6, "-100 less the place of its FAULT",
            "text '^$' = -100", "text 'b^$' = -100", "text 'blows 4;worth 5;hands ^;' = -122", "text '"
            + " ".repeat(159) + "^$' = -259", "text '" + " ".repeat(160) + "^' = -260");
        e.test(6, "A TEXT is read from THE TAPE (160 bytes at most)",
            "text 'blows 0;worth 7;hands 0" + " ".repeat(136) + ";' = 1", "force(1) = 0", "asks(1, 0, 0, 0) = 7",
            "text '" + " ".repeat(136) + "blows 0;worth 8;hands 0;' = 2", "force(2) = 1", "asks(1, 0, 0, 0) = 8",
            "text 'blows 0;worth 9" + "+0".repeat(68) + ";hands 0;' = 3", "force(3) = 2", "asks(1, 0, 0, 0) = 9",
            "text 'blows 0;worth 9" + "+0".repeat(67) + "+(;hands 0;' = -251");
    }

    private void textFull() {
        e.test(6, "TEXTS are numbered from 0 on, 6 at most", behindFive("count(5) = 6", "text '" + LAW + "' = FULL",
            "count(5) = 6", "force(5) = 0", "asks(1, 0, 0, 0) = 15", "force(1) = 5", "asks(1, 0, 0, 0) = 11",
            "force(0) = 1", "asks(1, 0, 0, 0) = 5", "force(6) = BAD"));
        e.test(6, "FULL (ahead of the FAULT", behindFive("text 'blows $' = FULL", "text() = FULL"));
        e.test(6, "then THE TAPE stays)", behindFive("text 'blows $' = FULL", "count(7) = 7", "text() = FULL",
            "count(7) = 7", "feed(1, 32, 0, 0, 0, 0) = 8"));
        e.test(6, "They change nothing, but where it is told", behindFive("force(5) = 0", "text '" + LAW + "' = FULL",
            "count(5) = 6", "count(6) = 5", "asks(1, 0, 0, 0) = 15"));
        e.test(6, "They change nothing, but where it is told",
            "text 'blows 0;worth 77;hands 0;' = 1", "force(1) = 0", "text 'blows 0;worth 66;hands 0;^;'",
            "count(5) = 2", "count(6) = 1", "force(2) = BAD", "asks(1, 0, 0, 0) = 77");
    }

    private void words() {
        e.test(6, "TOKENS, each as long as can be",
            "e '^celly'", "e '^xy'", "e '^notx'", "e 'not1'", "e '1or 2'", "e '1 ^orx'", "e '12^x'", "e '^00001'",
            "e 'x ^y'", "e '1 ^1'", "new", "text '^blowscell;worth 0;hands 0;'", "text 'blows 4;^worthx;hands 0;'",
            "text 'blows(4);worth-5;hands(1);' = 1");
        e.test(6, "WORDS (as many letters a .. z as stand there)",
            "e '^xa'", "e '^xz'", "e 'x^`'", "e 'x^{'", "e 'x^Y'", "e '^X'", "e '^Cell'", "e 'x^_'", "e 'x^1'", "new",
            "text '^Blows 4;worth 5;hands 1;'", "text 'blow^S 4;' = -100", "text '^blowS 4;'");
    }

    /** Of these bytes each one that is no letter, digit, SIGN or blank. */
    private static List<Character> beginNothing() {
        List<Character> all = new ArrayList<>();
        for (char c = 0; c < 256; c++) {
            boolean isToken = c >= 'a' && c <= 'z' || c >= '0' && c <= '9' || "();+-*<=".indexOf(c) >= 0;
            if (!isToken && c != 32 && c != 10) {
                all.add(c);
            }
        }
        return all;
    }

    private void numbersAndSigns() {
        e.test(6, "NUMBERS (as many digits as stand there",
            "e '0123'", "e '9876'", "e '4545'", "e '1^/2'", "e '1^:2'", "e '^98765'", "e '1 ^23'",
            "worth '0042' = 42");
        e.test(6, "more than 4 are too long)",
            "e '9999'", "e '^99999'", "e '0000'", "e '^00000'", "e '1 + ^12345'", "e '^" + "7".repeat(130) + "'",
            "worth '1000 - 999' = 1", "worth '9999 - 9900' = 99");
        e.test(6, "SIGNS ( ) ; + - * < =",
            "e '( 1 ) + 2 - 3 * 4 < 5'", "e '(1)+2-3*4<5'", "e '1 = 2'", "e '1=2'", "e '1 ^> 2'", "e '1 ^/ 2'",
            "e '1 ^% 2'", "e '1 ^& 2'", "e '1 ^| 2'", "e '1 ^, 2'", "e '^!1'", "e '1 ^:'", "e '^[1]'", "e '1^.5'",
            "e '1 <^= 2'", "e '1 =^= 2'");
    }

    private void blanks() {
        e.test(6, "blanks (32, 10) may stand between",
            "text '\n \n blows\n4\n;\n\nworth  5 ; hands\n1 \n;\n \n' = 1", "text 'blows4;worth5;hands1;' = 2",
            "text '^blo ws 4;worth 5;hands 1;'", "text 'blows 1 ^2;'", "text 'blows 4;worth 5;hands 1;\n' = 3",
            "text '\nblows 4;worth 5;hands 1;' = 4", "text ' blows 4;worth 5;hands 1; ' = 5");
        List<String> rows = new ArrayList<>();
        for (char c : beginNothing()) {
            rows.add("e '1 ^" + c + "+ 2'");
        }
        e.test(6, "blanks (32, 10)", rows.toArray(new String[0]));
    }

    private void rulesOfTexts() {
        e.test(6, "TEXT: blows E ; worth E ; hands E ;",
            "text '" + DIVIDED + "' = 1", "text '^worth 5;blows 4;hands 1;'", "text 'blows 4;^hands 1;worth 5;'",
            "text 'blows 4;^blows 4;worth 5;hands 1;'", "text 'blows 4;worth 5;^worth 5;hands 1;'",
            "text 'blows 4 ^worth 5;hands 1;'", "text 'blows 4;worth 5 ^hands 1;'", "text 'blows 4;worth 5;hands 1^'",
            "text '" + DIVIDED + "^;'", "text '" + DIVIDED + "^" + DIVIDED + "'", "text '" + DIVIDED + "^1'",
            "text '^;'", "text 'blows ^;worth 5;hands 1;'", "text 'blows 4;worth ^;hands 1;'",
            "text 'blows 4;worth 5;hands ^;'", "text '^4;worth 5;hands 1;'", "text 'blows 4;^;worth 5;hands 1;'",
            "text 'blows ^blows 4;'", "count(5) = 2");
        e.test(6, "E: AND { or AND }",
            "e '1 or 2'", "e '1 or 2 or 3'", "e '1 or ^'", "e '^or 1'", "e '1 or ^or 2'", "e '1 or not 2'",
            "e '1 ^not 2'", "e '1 or 2 and 3 or 4'");
        e.test(6, "AND: NOT { and NOT }",
            "e '1 and 2'", "e '1 and 2 and 3'", "e '1 and ^'", "e '^and 1'", "e '1 and ^and 2'", "e '1 and ^or 2'",
            "e '1 and not 2'", "e '1 and not not 2 and 3'");
        e.test(6, "NOT: not NOT, or SUM, perhaps < or = and a SUM",
            "e 'not 1'", "e 'not not 1'", "e 'not ^'", "e '1 < 2'", "e '1 = 2'", "e 'not 1 < 2'", "e 'not 1 = 2'",
            "e '1 < 2 ^< 3'", "e '1 = 2 ^= 3'", "e '1 < 2 ^= 3'", "e '1 = 2 ^< 3'", "e '1 < ^not 2'",
            "e '1 = ^not 2'", "e '1 < ^'", "e '1 = ^'", "e '^< 1'", "e '^= 1'", "e '1 = 2 and 3 < 4'",
            "e '1 < 2 or not 3 = 4'", "e '(1 < 2) = 3'");
    }

    private void rulesOfSums() {
        e.test(6, "SUM: TERM { + or - TERM }",
            "e '1 + 2 - 3 + 4'", "e '1 + ^'", "e '1 - ^'", "e '^+ 1'", "e '1 + ^+ 2'", "e '1 - ^+ 2'", "e '1 + - 2'",
            "e '1 - - 2'", "e '1 + ^not 2'", "e '1 - ^not 2'");
        e.test(6, "TERM: ONE { * ONE }",
            "e '1 * 2 * 3'", "e '1 * ^'", "e '^* 1'", "e '1 * ^* 2'", "e '2 * - 3'", "e '2 * ^+ 3'", "e '2 * ^not 3'",
            "e '2 + 3 * ^'");
        e.test(6, "ONE: a NUMBER, a NAME, - ONE, ( E )",
            "e '7'", "e 'cell'", "e '- 7'", "e '- - cell'", "e '- (7)'", "e '- ^not 7'", "e '- ^'", "e '- ^+ 7'",
            "e '(7)'", "e '(1 or 2)'", "e '(not 1)'", "e '(1 < 2)'", "e '(^)'", "e '^)'", "e '(7^'", "e '7^)'",
            "e '(7)^)'", "e '^'", "e '1 ^(2)'", "e '(1) ^(2)'", "e '(1)^2'", "e '1 ^x'", "e '(1 ^2)'");
        e.test(6, "NAMES: cell x y step thing more",
            "e 'cell + x + y + step + thing + more'", "e '^cel'", "e '^cells'", "e '^kind'", "e '^z'", "e '^steps'",
            "e '^ste'", "e '^things'", "e '^mor'", "e '^xx'", "e '^worth'", "e '^blows'", "e '1 + ^hands'");
    }

    private void faults() {
        e.test(6, "FAULT: the place of the first byte of the first TOKEN that can't stand there",
            "e '1 + ^) + )'", "e '12 ^345 678'", "e '1 \n\n ^worth $'", "e '1 ^thing thing'", "e '1 ^12345'",
            "e '1 ^foo'", "new", "text '  ^worth 5;'", "text 'blows 4 ;\n^cell'", "text '^( $'");
        e.test(6, "(the text's size, if it ends too early)",
            "text() = -100", "text ' ^'", "text 'blows^'", "text 'blows ^'", "text 'blows 4 \n^'", "text 'blows 4;^'",
            "text 'blows (^'", "text 'blows (4^'", "text 'blows 4 +^'", "text 'blows not  ^'",
            "text 'blows 4;worth 5;hands 1^'", "text 'blows 4;worth 5;hands 1 \n ^'", "text '" + " ".repeat(155)
            + "blows^'", "count(5) = 1");
        List<String> rows = new ArrayList<>();
        for (char c : beginNothing()) {
            rows.add("new");
            rows.add("text '^" + c + "'");
            rows.add("text 'blows 4^" + c + ";worth 5;hands 1;'");
            rows.add("text '" + DIVIDED + "^" + c + "'");
            rows.add("text 'blows ^; " + c + "'");
        }
        e.test(6, "also of a byte that begins none", rows.toArray(new String[0]));
    }

    private void otherFaults() {
        e.test(6, "of a WORD that is neither KEY nor NAME",
            "e '^foo'", "e '1 ^foo'", "e '1 + ^foo'", "e '^andy'", "e '1 ^ando 2'", "e '^q'", "new",
            "text '^blow 4;'", "text '^blowss 4;'", "text 'blows 4;^wort 5;'", "text 'blows 4;worth 5;^hand 1;'",
            "text '" + DIVIDED + "^foo'", "text '^" + "b".repeat(160) + "'");
        e.test(6, "a NUMBER that is too long",
            "e '^12345'", "e '1 + ^00000'", "e '1 ^12345'", "e '- ^12345'", "e '(1 < ^12345)'", "new",
            "text '^12345'", "text 'blows 4;worth 5;hands 1;^12345'", "text '^" + "1".repeat(160) + "'");
    }

    private void tooManyOpen() {
        e.test(6, "a ( , a not, a - ahead of a ONE while 5 of these are open",
            "e '(((((1)))))'", "e '(((((^(1))))))'", "e '(((((^('", "e 'not not not not not 1'",
            "e 'not not not not not ^not 1'", "e '- - - - - 1'", "e '- - - - - ^- 1'", "e '-----1'", "e '-----^-1'",
            "e '((not - - 1))'", "e '((not - - ^- 1))'", "e '((not - - ^(1)))'", "e '((not (not ^not 1)))'",
            "e '((not (not ^- 1)))'", "e '((((not ^not 1))))'", "e '(((((^not 1)))))'", "e '(((((^- 1)))))'",
            "e '(((((1 - 1 - 1)))))'", "e '(((((1 - ^- 1)))))'", "e '(((((1 + ^(1)))))'",
            "e 'not not not not not ^- 1'", "e 'not not not not not ^(1)'", "e '- - - - - ^(1)'");
    }

    private void openTill() {
        e.test(6, "(a ( till its ) ",
            "e '(((((1))))) + (((((1)))))'", "e '(((((1) + (1)) + (1)) + (1)) + (1))'",
            "e '(((((1) + (1 + ^(1))))))'", "e '(((((1)))) + - 1)'", "e '(((((1)))) + - - - - 1)'",
            "e '(((((1)))) + - - - - ^- 1)'");
        e.test(6, "not and - till what they belong to ends)",
            "e '- - - - - 1 + - - - - - 1'", "e '- - - - - 1 * - - - - - 1'", "e '-----1 - -----1 - -----^-1'",
            "e '- - - - - 1 + (((((1)))))'", "e '- - - - (1) + (1)'", "e '- - - - (1 + ^- 1)'",
            "e 'not not not not not 1 and not not not not not 1'", "e 'not not not not not 1 or (((((1)))))'",
            "e 'not not not not not 1 and - 1'", "e 'not not not not not 1 < ^- 1'",
            "e 'not not not not not 1 + ^- 1'", "e 'not not not not not 1 = ^(1)'",
            "e 'not not not not not 1 * ^(1)'", "e 'not not not not 1 < - 1'", "e 'not not not not 1 < - 1 + - 1'",
            "e 'not not not not 1 < - ^- 1'", "e 'not not not not not 1 < 1 or not not not not not 1 = 1'");
    }

    private void force() {
        e.test(7, "A TEXT is THE LAW: which was", behindFive("force(0) = 0", "force(5) = 0", "asks(1, 0, 0, 0) = 15",
            "force(1) = 5", "asks(1, 0, 0, 0) = 11", "force(1) = 1", "force(0) = 1", "asks(1, 0, 0, 0) = 5",
            "count(6) = 0"));
        e.test(7, "BAD",
            "force(-1|1|2|5|6|MIN|MAX) = BAD", "text '" + LAW + "' = 1", "force(1) = 0",
            "force(-1|2|5|6|MIN|MAX) = BAD", "count(6) = 1");
        e.test(7, "They change nothing, but where it is told",
            "text '" + LAW + "' = 1", "force(1) = 0", "force(2) = BAD", "force(-1) = BAD", "count(6) = 1",
            "asks(1, 0, 0, 0) = 2", "force(0) = 1");
        e.test(7, "BAD a number is not as told", behindFive("force(5) = 0", "force(6|-1) = BAD", "force(4) = 5"));
    }

    private void asks() {
        String says = "text 'blows x-y;worth cell+step;hands thing-more;' = 1";
        e.test(8, "What part 0 blows", says, "force(1) = 0", "asks(0, 14, 0, 0) = 0", "asks(0, 9, 0, 0) = 2");
        e.test(8, "1 worth", says, "force(1) = 0", "asks(1, 14, 20, 0) = 34");
        e.test(8, "2 hands says", says, "force(1) = 0", "asks(2, 14, 20, 92) = 7");
        e.test(8, "(CELL c",
            says, "force(1) = 0", "asks(1, 0, 0, 0) = 0", "asks(1, 29, 0, 0) = 29", "asks(0, 5, 0, 0) = 4",
            "asks(0, 24, 0, 0) = 0", "house(0, 29, 1) = 0", "asks(1, 29, 1, 0) = 30");
        e.test(8, "step 0 .. 99",
            says, "force(1) = 0", "asks(1, 0, 0, 0) = 0", "asks(1, 0, 99, 0) = 99", "asks(1, 0, 98, 0) = 98",
            "count(4) = 0", "set(50) = 0", "asks(1, 0, 3, 0) = 3");
        e.test(8, "thingMore: 10 times thing, and more, 0 .. 99",
            "text 'blows 0;worth 10*thing+more;hands thing;' = 1", "force(1) = 0", "asks(1, 0, 0, 0) = 0",
            "asks(1, 0, 0, 9) = 9", "asks(2, 0, 0, 9) = 0", "asks(1, 0, 0, 10) = 10", "asks(2, 0, 0, 10) = 1",
            "asks(1, 0, 0, 99) = 99", "asks(2, 0, 0, 99) = 9", "asks(2, 0, 0, 38) = 3");
    }

    private void asksRefused() {
        e.test(8, "BAD",
            "asks(-1|3|4|MIN|MAX, 0, 0, 0) = BAD", "asks(0..2, -1|30|MIN|MAX, 0, 0) = BAD",
            "asks(0..2, 0, -1|100|MIN|MAX, 0) = BAD", "asks(0..2, 0, 0, -1|100|MIN|MAX) = BAD",
            "asks(3, 30, 100, 100) = BAD");
        e.test(8, "What is asked changes nothing, but where it is told",
            "text 'blows 0;worth step;hands cell;' = 1", "asks(1, 7, 7, 77) = 5", "force(1) = 0",
            "asks(1, 7, 7, 77) = 7", "count(4) = 0", "count(6) = 1", "count(0) = 0");
    }

    private void bounds() {
        e.test(8, "(blows 0 .. 4, worth 0 .. 99, hands 0 .. 9, else the bound)",
            "text 'blows step-10;worth 10*step-100;hands step-10;' = 1", "force(1) = 0", "asks(0, 0, 0|9|10, 0) = 0",
            "asks(0, 0, 11, 0) = 1", "asks(0, 0, 13, 0) = 3", "asks(0, 0, 14|15|99, 0) = 4",
            "asks(1, 0, 0|9|10, 0) = 0", "asks(1, 0, 11, 0) = 10", "asks(1, 0, 19, 0) = 90",
            "asks(1, 0, 20|21|99, 0) = 99", "asks(2, 0, 0|9|10, 0) = 0", "asks(2, 0, 11, 0) = 1",
            "asks(2, 0, 18, 0) = 8", "asks(2, 0, 19|20|99, 0) = 9", "worth '98' = 98", "worth '99' = 99",
            "worth '100' = 99", "worth '9999 * 9999' = 99", "worth '- 1' = 0", "worth '- 9999 * 9999' = 0", "new",
            "text 'blows 9999*9999;worth 0;hands 9999*9999;' = 1", "force(1) = 0", "asks(0, 0, 0, 0) = 4",
            "asks(2, 0, 0, 0) = 9", "new", "text 'blows -9999*9999;worth 0;hands -9999*9999;' = 1", "force(1) = 0",
            "asks(0|2, 0, 0, 0) = 0");
    }

    private void values() {
        e.test(8, "An E is an int (32 bits, wrapping)",
            "worth '4096 * 4096 * 128 < 0' = 1", "worth '4096 * 4096 * 128 - 1 < 0' = 0",
            "worth '4096 * 4096 * 256 = 0' = 1", "worth '4096 * 4096 * 128 + 4096 * 4096 * 128 = 0' = 1",
            "worth '- (4096 * 4096 * 128) < 0' = 1", "worth '4096 * 4096 * 128 + 7 + 4096 * 4096 * 128' = 7",
            "worth '4096 * 4096 * 128 - 1 + 1 < 0' = 1", "worth '4096 * 4096 * 128 < 1' = 1",
            "worth '1 < 4096 * 4096 * 128' = 0", "worth '4096 * 4096 * 128 - 1 < 0 - 1' = 0");
        e.test(8, "of or, and, not, <, = 1 or 0",
            "worth '3 or 5' = 1", "worth '0 or 8' = 1", "worth '8 or 0' = 1", "worth '0 or 0' = 0",
            "worth '3 and 5' = 1", "worth '3 and 0' = 0", "worth '0 and 3' = 0", "worth 'not 7' = 0",
            "worth 'not 0' = 1", "worth '1 < 2' = 1", "worth '2 < 2' = 0", "worth '3 < 2' = 0", "worth '2 = 2' = 1",
            "worth '2 = 3' = 0", "worth '(3 and 5) + (0 or 8) + (not 0) + (1 < 2) + (2 = 2)' = 5",
            "worth '(3 and 0) + 7' = 7", "worth '(0 or 0) + 7' = 7", "worth '(not 3) + 7' = 7",
            "worth '(2 < 1) + 7' = 7", "worth '(1 = 2) + 7' = 7");
        e.test(8, "(what is not 0 is true)",
            "worth '- 1 and - 2' = 1", "worth '1 and 2' = 1", "worth '- 1 or 0' = 1", "worth 'not - 1' = 0",
            "worth 'not 2' = 0", "worth 'not not 2' = 1", "worth '4096 * 4096 * 128 and 1' = 1",
            "worth 'not 4096 * 4096 * 128' = 0", "worth 'not 4096 * 4096 * 256' = 1");
        e.test(8, "E: AND { or AND }. AND: NOT { and NOT }. NOT: not NOT, or SUM, perhaps < or = and a SUM",
            "worth '1 or 1 and 0' = 1", "worth '(1 or 1) and 0' = 0", "worth '0 and 0 or 1' = 1",
            "worth 'not 0 and 0' = 0", "worth 'not (0 and 0)' = 1", "worth 'not 1 = 2' = 1",
            "worth '(not 1) = 2' = 0", "worth 'not 1 < 1' = 1", "worth 'not 1 + 1' = 0", "worth '1 + 1 = 2' = 1",
            "worth '3 < 2 + 2' = 1", "worth '0 or 0 or 3' = 1", "worth '- 1 < 0' = 1", "worth '0 < - 1' = 0");
        e.test(8, "SUM: TERM { + or - TERM }. TERM: ONE { * ONE }. ONE: a NUMBER, a NAME, - ONE, ( E )",
            "worth '2 + 3 * 4' = 14", "worth '2 * 3 + 4' = 10", "worth '(2 + 3) * 4' = 20", "worth '9 - 2 - 1' = 6",
            "worth '9 - (2 - 1)' = 8", "worth '9 - 2 + 1' = 8", "worth '- 2 + 5' = 3", "worth '10 - - 3' = 13",
            "worth '- 2 * - 3' = 6", "worth '- - 3' = 3", "worth '2 * 3 * 4' = 24", "worth '9 - 2 * 3' = 3");
    }

    private void names() {
        e.test(8, "of a THING: thing: its number; more: MORE; cell, x, y: the CELL as told; step: as told",
            "worth 'cell' = 16", "worth 'x' = 4", "worth 'y' = 2", "worth 'step' = 21", "worth 'thing' = 3",
            "worth 'more' = 8");
        e.test(8, "6 times y (0 .. 4), and x (0 .. 5)",
            "text 'blows y;worth 10*y+x;hands x;' = 1", "force(1) = 0", "asks(1, 0, 0, 0) = 0",
            "asks(1, 5, 0, 0) = 5", "asks(1, 6, 0, 0) = 10", "asks(1, 11, 0, 0) = 15", "asks(1, 23, 0, 0) = 35",
            "asks(1, 24, 0, 0) = 40", "asks(1, 29, 0, 0) = 45", "asks(0, 29, 0, 0) = 4", "asks(2, 29, 0, 0) = 5");
    }
}

/** Counts what answers as is due, tells what doesn't, and ends the test. */
final class Dues {
    private int right;
    private int wrong;

    void due(String call, long got, long want) {
        if (got == want) {
            right++;
        } else {
            wrong++;
            System.out.println(call + " answered " + got + ", due is " + want);
        }
    }

    void fault(String told) {
        wrong++;
        System.out.println(told);
    }

    void end() {
        System.out.println(right + " answers are as due, " + wrong + " are not");
        if (wrong != 0) {
            System.exit(1);
        }
    }

    /** Feeds a text's bytes, five at a time as far as they go. */
    static int feedAll(WhereTheSpoonWent x, String text) {
        int has = x.count(7);
        for (int i = 0; i < text.length(); i += 5) {
            int n = Math.min(5, text.length() - i);
            int[] b = new int[5];
            for (int j = 0; j < n; j++) {
                b[j] = text.charAt(i + j);
            }
            has = x.feed(n, b[0], b[1], b[2], b[3], b[4]);
        }
        return has;
    }

    static int text(WhereTheSpoonWent x, String text) {
        feedAll(x, text);
        return x.text();
    }

    /** Bits of these places. */
    static int bits(int... places) {
        int bits = 0;
        for (int place : places) {
            bits |= 1 << place;
        }
        return bits;
    }

    /** A SHEET becomes a row of ints. */
    static void row(WhereTheSpoonWent x, int s, int... numbers) {
        x.sheet(s, 2, numbers.length);
        for (int i = 0; i < numbers.length; i++) {
            x.cell(s, i, numbers[i]);
        }
    }
}

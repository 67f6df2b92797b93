/** Promises 32 to 35: throws by lot, images. */
public final class LotTest {
    private static final Dues d = new Dues();
    private static final int MIN = Integer.MIN_VALUE, MAX = Integer.MAX_VALUE;
    private static final long NO = -4611686018427387904L;

    public static void main(String[] args) {
        promise32Drawn();
        promise33Mean();
        promise33Refusals();
        promise34Image();
        promise35Back();
        promise35BackOfTheRest();
        d.end();
    }

    /** Five in 14: behind a step each is where its lot sends it. */
    private static WhereTheSpoonWent five() {
        WhereTheSpoonWent x = new WhereTheSpoonWent();
        for (int t = 0; t < 5; t++) {
            d.due("a thing", x.thing(0, 14, t), t);
        }
        return x;
    }

    /** How many of these lots go each way. */
    private static void drawn(WhereTheSpoonWent x, int seed, int... ways) {
        int[] cell = {8, 15, 20, 13, 14};
        for (int way = 0; way < 5; way++) {
            int due = 0;
            for (int w : ways) {
                due += w == way ? 1 : 0;
            }
            d.due("drawn: seed " + seed + " way " + way, x.drawn(seed, 1, cell[way]), due);
        }
    }

    private static void promise32Drawn() {
        WhereTheSpoonWent x = new WhereTheSpoonWent();
        d.due("drawn: no things", x.drawn(0, 0, 0), 0);
        x = five();
        drawn(x, 0, 1, 4, 1, 2, 1);
        drawn(x, 7, 3, 2, 0, 2, 4);
        drawn(x, 99998, 0, 0, 1, 3, 1);
        drawn(x, 99999, 1, 4, 0, 3, 0);
        d.due("drawn: now", x.drawn(0, 0, 14), 5);
        d.due("drawn: behind 2", x.drawn(0, 2, 16), 3);
        d.due("drawn: elsewhere", x.drawn(0, 1, 0), 0);
        d.due("drawn: in thought", x.told(0, 1), 0);
        d.due("drawn: seed 100000", x.drawn(100000, 0, 0), -2);
        d.due("drawn: seed -1", x.drawn(-1, 0, 0), -2);
        d.due("drawn: seed MAX", x.drawn(MAX, 0, 0), -2);
        d.due("drawn: n", x.drawn(0, 41, 0), -2);
        d.due("drawn: n -1", x.drawn(0, -1, 0), -2);
        d.due("drawn: cell", x.drawn(0, 0, 30), -2);
        d.due("drawn: cell -1", x.drawn(0, 0, -1), -2);
        x = new WhereTheSpoonWent();
        x.thing(30, 0, 0);
        x.thing(0, 14, 0);
        d.due("drawn: each its own lot", x.drawn(0, 1, 1), 1);
        d.due("drawn: each its own lot", x.drawn(0, 1, 14), 1);
    }

    private static void mean(WhereTheSpoonWent x, int seed, int seeds, int nCell, int above, int below) {
        String call = "mean(" + seed + ", " + seeds + ", " + nCell + ")";
        d.due(call + " above", x.mean(seed, seeds, nCell, 0), above);
        d.due(call + " below", x.mean(seed, seeds, nCell, 1), below);
    }

    private static void promise33Mean() {
        WhereTheSpoonWent x = new WhereTheSpoonWent();
        mean(x, 0, 40, 0, 0, 1);
        x.thing(0, 14, 0);
        mean(x, 0, 40, 108, 1, 5);
        mean(x, 0, 40, 14, 1, 1);
        x.thing(0, 14, 0);
        mean(x, 0, 40, 115, 17, 40);
        mean(x, 0, 40, 113, 3, 8);
        mean(x, 0, 40, 14, 2, 1);
        x = five();
        mean(x, 5, 20, 115, 23, 20);
        mean(x, 5, 20, 114, 5, 4);
        mean(x, 5, 20, 108, 3, 4);
        mean(x, 5, 20, 120, 21, 20);
        mean(x, 5, 20, 113, 4, 5);
        mean(x, 3, 7, 120, 10, 7);
        mean(x, 10, 12, 114, 17, 12);
        mean(x, 10, 12, 108, 7, 12);
        mean(x, 0, 1, 115, 3, 1);
        mean(x, 0, 1, 108, 0, 1);
        mean(x, 99999, 1, 108, 2, 1);
        mean(x, 99960, 40, 113, 41, 40);
        mean(x, 0, 1, 4014, 2, 1);
        mean(x, 99999, 40, 14, 5, 1);
    }

    private static void promise33Refusals() {
        WhereTheSpoonWent x = five();
        d.due("mean: seed", x.mean(100000, 1, 0, 0), NO);
        d.due("mean: seed -1", x.mean(-1, 1, 0, 0), NO);
        d.due("mean: seeds 0", x.mean(0, 0, 0, 0), NO);
        d.due("mean: seeds 41", x.mean(0, 41, 0, 0), NO);
        d.due("mean: seeds -1", x.mean(0, -1, 0, 0), NO);
        for (int nCell : new int[] {30, 99, 4030, 4100, -1, -100, MIN, MAX}) {
            d.due("mean: nCell " + nCell, x.mean(0, 1, nCell, 0), NO);
        }
        d.due("mean: part", x.mean(0, 1, 0, 2), NO);
        d.due("mean: part -1", x.mean(0, 1, 0, -1), NO);
        d.due("mean: 4029", x.mean(0, 1, 4029, 1), 1);
    }

    private static void promise34Image() {
        WhereTheSpoonWent x = new WhereTheSpoonWent();
        d.due("image: none", x.image(), 0);
        x.thing(0, 0, 0);
        x.thing(0, 1, 0);
        d.due("image: two", x.image(), 2);
        x.put(0, 29, 0);
        d.due("image: the last one is kept", x.back(), 2);
        d.due("image: the last one is kept", x.told(0, 0), 0);
    }

    private static void promise35Back() {
        WhereTheSpoonWent x = new WhereTheSpoonWent();
        d.due("back: none is kept", x.back(), -3);
        x.house(0, 1, 1);
        x.house(1, 2, 1);
        x.house(2, 3, 1);
        x.set(33);
        Dues.text(x, "blows 1;worth 1;hands 1;");
        x.force(1);
        x.thing(34, 14, 2);
        d.due("back: image", x.image(), 1);
        x.house(0, 1, 0);
        x.house(0, 5, 1);
        x.house(1, 6, 1);
        x.house(2, 3, 0);
        x.set(44);
        x.force(0);
        x.put(0, 15, 1);
        x.thing(0, 1, 1);
        x.thing(0, 2, 1);
        d.due("back", x.back(), 1);
        int[] due = {1, 1 << 1, 1 << 2, 1 << 3, 33, 2, 1, 0};
        for (int what = 0; what < due.length; what++) {
            d.due("back: count(" + what + ")", x.count(what), due[what]);
        }
        int[] told = {14, 2, 3, 4};
        for (int what = 0; what < told.length; what++) {
            d.due("back: told(0, " + what + ")", x.told(0, what), told[what]);
        }
        d.due("back: those that came are none", x.told(1, 0), -5);
        d.due("back: others come in their place", x.thing(59, 20, 3), 1);
        d.due("back: others come in their place", x.told(1, 2), 5);
        d.due("back: again", x.back(), 1);
        x.run(5);
        d.due("back: and again", x.back(), 1);
        d.due("back: and again", x.told(0, 0), 14);
    }

    private static void promise35BackOfTheRest() {
        WhereTheSpoonWent x = new WhereTheSpoonWent();
        x.image();
        Dues.text(x, "blows 1;worth 1;hands 1;");
        x.force(1);
        x.feed(2, 1, 1, 1, 1, 1);
        x.sheet(0, 2, 7);
        x.thing(0, 0, 0);
        x.house(0, 29, 1);
        d.due("back: an empty house", x.back(), 0);
        d.due("back: the texts stay", x.count(5), 2);
        d.due("back: the tape stays", x.count(7), 2);
        d.due("back: the sheets stay", x.cell(0, 6, 0), 1);
        d.due("back: the law of then", x.count(6), 0);
        d.due("back: no wall", x.count(1), 0);
    }
}

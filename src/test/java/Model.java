import java.util.ArrayDeque;
import java.util.ArrayList;
import java.util.Arrays;
import java.util.HashMap;
import java.util.LinkedHashMap;
import java.util.List;
import java.util.Map;
import java.util.TreeMap;
import java.util.TreeSet;
import java.util.regex.Matcher;
import java.util.regex.Pattern;

/**
 * The document once more, as slow and as literal as can be, with all of the Java library: what
 * RandomRunsTest holds the class against. It shares no code with it.
 */
final class Model {
    private static final long NO = -4611686018427387904L;
    private static final int[] DX = {0, 1, 0, -1}, DY = {-1, 0, 1, 0};

    private interface Expression {
        int of(Map<String, Integer> names);
    }

    /** The place of a FAULT, thrown from where it is found. */
    private static final class Fault extends RuntimeException {
        final int place;

        Fault(int place) {
            super(null, null, false, false);
            this.place = place;
        }
    }

    private record Token(String sort, String letters, int place) { }

    private static final class Parser {
        private static final Pattern TOKEN = Pattern.compile("[a-z]+|[0-9]+|[();+\\-*<=]");
        private static final List<String> NAMES = List.of("cell", "x", "y", "step", "thing", "more");
        private final List<Token> tokens = new ArrayList<>();
        private int i;
        private int open;

        Parser(String text) {
            Matcher m = TOKEN.matcher(text);
            int at = 0;
            while (at < text.length()) {
                char c = text.charAt(at);
                if (c == ' ' || c == '\n') {
                    at++;
                } else if (m.region(at, text.length()).lookingAt()) {
                    tokens.add(new Token(sortOf(m.group()), m.group(), at));
                    at = m.end();
                } else {
                    tokens.add(new Token("?", "", at));
                    at++;
                }
            }
            tokens.add(new Token("end", "", text.length()));
        }

        private static String sortOf(String letters) {
            if (Character.isDigit(letters.charAt(0))) {
                return letters.length() > 4 ? "?" : "number";
            }
            return NAMES.contains(letters) ? "name" : letters;
        }

        private boolean sees(String sort) {
            return tokens.get(i).sort.equals(sort);
        }

        private Token need(String sort) {
            if (!sees(sort)) {
                throw new Fault(tokens.get(i).place);
            }
            return tokens.get(i++);
        }

        private void opens(String sort) {
            if (open == 5) {
                throw new Fault(tokens.get(i).place);
            }
            need(sort);
            open++;
        }

        List<Expression> text() {
            List<Expression> all = new ArrayList<>();
            for (String key : List.of("blows", "worth", "hands")) {
                need(key);
                all.add(e());
                need(";");
            }
            need("end");
            return all;
        }

        private Expression e() {
            Expression a = and();
            while (sees("or")) {
                need("or");
                Expression l = a, r = and();
                a = n -> (l.of(n) != 0) | (r.of(n) != 0) ? 1 : 0;
            }
            return a;
        }

        private Expression and() {
            Expression a = not();
            while (sees("and")) {
                need("and");
                Expression l = a, r = not();
                a = n -> (l.of(n) != 0) & (r.of(n) != 0) ? 1 : 0;
            }
            return a;
        }

        private Expression not() {
            if (sees("not")) {
                opens("not");
                Expression a = not();
                open--;
                return n -> a.of(n) == 0 ? 1 : 0;
            }
            Expression l = sum();
            if (sees("<")) {
                need("<");
                Expression r = sum();
                return n -> l.of(n) < r.of(n) ? 1 : 0;
            }
            if (sees("=")) {
                need("=");
                Expression r = sum();
                return n -> l.of(n) == r.of(n) ? 1 : 0;
            }
            return l;
        }

        private Expression sum() {
            Expression a = term();
            while (sees("+") || sees("-")) {
                boolean plus = need(tokens.get(i).sort).sort.equals("+");
                Expression l = a, r = term();
                a = plus ? n -> l.of(n) + r.of(n) : n -> l.of(n) - r.of(n);
            }
            return a;
        }

        private Expression term() {
            Expression a = one();
            while (sees("*")) {
                need("*");
                Expression l = a, r = one();
                a = n -> l.of(n) * r.of(n);
            }
            return a;
        }

        private Expression one() {
            if (sees("number")) {
                int v = Integer.parseInt(need("number").letters);
                return n -> v;
            }
            if (sees("name")) {
                String name = need("name").letters;
                return n -> n.get(name);
            }
            if (sees("-")) {
                opens("-");
                Expression a = one();
                open--;
                return n -> -a.of(n);
            }
            opens("(");
            Expression a = e();
            need(")");
            open--;
            return a;
        }
    }

    private static final class T {
        int kind, more, cell, way, number;

        T copy() {
            T t = new T();
            t.kind = kind;
            t.more = more;
            t.cell = cell;
            t.way = way;
            t.number = number;
            return t;
        }
    }

    private record Image(boolean[][] has, int step, int law, List<T> things) { }

    private static final class Row {
        final int sort;
        final int[] v;

        Row(int sort, int n) {
            this.sort = sort;
            this.v = new int[n];
        }
    }

    private boolean[][] has = new boolean[3][30];
    private int step, law;
    private List<T> things = new ArrayList<>();
    private final List<List<Expression>> texts = new ArrayList<>();
    private final StringBuilder tape = new StringBuilder();
    private Image image;
    private final Row[] rows = new Row[4];

    Model() {
        texts.add(new Parser("blows 4 ; worth 5 ; hands 1 ;").text());
    }

    private static boolean in(int v, int most) {
        return 0 <= v && v <= most;
    }

    private boolean free(int c) {
        return in(c, 29) && !has[0][c];
    }

    private boolean no(int t) {
        return !in(t, things.size() - 1);
    }

    private int says(int law, int part, int cell, int step, int thing, int more) {
        Map<String, Integer> n = new HashMap<>();
        n.put("cell", cell);
        n.put("x", cell % 6);
        n.put("y", cell / 6);
        n.put("step", step);
        n.put("thing", thing);
        n.put("more", more);
        int v = texts.get(law).get(part).of(n);
        int most = List.of(4, 99, 9).get(part);
        return v < 0 ? 0 : v > most ? most : v;
    }

    private boolean isOne(int kind, int of) {
        int[] above = {-1, 0, 0, 1, 2, 0};
        for (int k = kind; k >= 0; k = above[k]) {
            if (k == of) {
                return true;
            }
        }
        return false;
    }

    private int neighbour(int c, int way) {
        int x = c % 6 + DX[way], y = c / 6 + DY[way];
        return in(x, 5) && in(y, 4) && !has[0][6 * y + x] ? 6 * y + x : -1;
    }

    private void step(T t, int n, int law) {
        if (has[1][t.cell]) {
            t.way = 4;
            return;
        }
        if (has[2][t.cell]) {
            int b = says(law, 0, t.cell, n, t.number, t.more);
            if (t.kind == 4 && b != 4) {
                t.way = (b + 2) % 4;
            } else if (t.kind != 5 || t.way == 4) {
                t.way = b == 4 ? t.way : b;
            }
        }
        if (t.way == 4 || t.kind == 3 && n % (t.more % 3 + 1) != 0) {
            return;
        }
        int to = neighbour(t.cell, t.way);
        if (to >= 0) {
            t.cell = to;
        } else if (isOne(t.kind, 1)) {
            t.way = 4;
        } else {
            t.way = (t.way + (isOne(t.kind, 2) ? 1 : 2)) % 4;
        }
    }

    private T behind(T t, int n, int law) {
        T u = t.copy();
        for (int k = 0; k < n; k++) {
            step(u, step + k, law);
        }
        return u;
    }

    private T behind(int t, int n) {
        return behind(things.get(t), n, law);
    }

    private T letGo(int t, int way) {
        T u = things.get(t).copy();
        u.way = way;
        return u;
    }

    int house(int what, int c, int is) {
        if (!in(what, 2)) {
            return -1;
        }
        if (!in(c, 29) || !in(is, 1)) {
            return -2;
        }
        if (what == 0 && is == 1 && things.stream().anyMatch(t -> t.cell == c)) {
            return -3;
        }
        int was = has[what][c] ? 1 : 0;
        has[what][c] = is == 1;
        return was;
    }

    int set(int v) {
        if (!in(v, 99)) {
            return -2;
        }
        int was = step;
        step = v;
        return was;
    }

    private static int bits(boolean[] is) {
        int bits = 0;
        for (int c = 0; c < is.length; c++) {
            bits += is[c] ? 1 << c : 0;
        }
        return bits;
    }

    int count(int what) {
        if (!in(what, 7)) {
            return -2;
        }
        return List.of(things.size(), bits(has[0]), bits(has[1]), bits(has[2]), step, texts.size(), law,
            tape.length()).get(what);
    }

    int feed(int n, int a, int b, int c, int d, int e) {
        int[] all = {a, b, c, d, e};
        if (n < 1 || n > 5 || Arrays.stream(all).anyMatch(v -> !in(v, 255))) {
            return -2;
        }
        if (tape.length() + n > 160) {
            return -4;
        }
        for (int i = 0; i < n; i++) {
            tape.append((char) all[i]);
        }
        return tape.length();
    }

    int text() {
        if (texts.size() == 6) {
            return -4;
        }
        String text = tape.toString();
        tape.setLength(0);
        try {
            texts.add(new Parser(text).text());
            return texts.size() - 1;
        } catch (Fault f) {
            return -100 - f.place;
        }
    }

    int force(int t) {
        if (!in(t, texts.size() - 1)) {
            return -2;
        }
        int was = law;
        law = t;
        return was;
    }

    int asks(int part, int c, int when, int thingMore) {
        if (!in(part, 2) || !in(c, 29) || !in(when, 99) || !in(thingMore, 99)) {
            return -2;
        }
        return says(law, part, c, when, thingMore / 10, thingMore % 10);
    }

    int thing(int kindMore, int c, int goes) {
        if (!in(kindMore, 59) || !free(c) || !in(goes, 4)) {
            return -2;
        }
        if (things.size() == 5) {
            return -4;
        }
        T t = new T();
        t.kind = kindMore / 10;
        t.more = kindMore % 10;
        t.cell = c;
        t.way = goes;
        t.number = things.size();
        things.add(t);
        return t.number;
    }

    int put(int t, int c, int goes) {
        if (no(t)) {
            return -5;
        }
        if (!free(c) || !in(goes, 4)) {
            return -7;
        }
        int was = things.get(t).cell;
        things.get(t).cell = c;
        things.get(t).way = goes;
        return was;
    }

    int told(int t, int what) {
        if (no(t)) {
            return -5;
        }
        T u = things.get(t);
        return what == 0 ? u.cell : what == 1 ? u.way : what == 2 ? u.kind : what == 3 ? u.more : -7;
    }

    int at(int n, int t, int what) {
        if (!in(n, 40) || no(t)) {
            return -5;
        }
        return what == 0 ? behind(t, n).cell : what == 1 ? behind(t, n).way : -7;
    }

    int run(int n) {
        if (!in(n, 40)) {
            return -2;
        }
        things.replaceAll(t -> behind(t, n, law));
        step = Math.min(99, step + n);
        return (int) things.stream().filter(t -> t.way == 4).count();
    }

    private int firstOf(java.util.function.IntPredicate p) {
        for (int k = 0; k <= 40; k++) {
            if (p.test(k)) {
                return k;
            }
        }
        return -1;
    }

    int when(int t, int c) {
        if (no(t)) {
            return -5;
        }
        return in(c, 29) ? firstOf(k -> behind(t, k).cell == c) : -7;
    }

    int meet(int t, int u) {
        if (no(t) || no(u) || t == u) {
            return -5;
        }
        return firstOf(k -> behind(t, k).cell == behind(u, k).cell);
    }

    int inside(int n, int c) {
        if (!in(n, 40)) {
            return -5;
        }
        if (!in(c, 29)) {
            return -7;
        }
        int bits = 0;
        for (int t = 0; t < things.size(); t++) {
            bits += behind(t, n).cell == c ? 1 << t : 0;
        }
        return bits;
    }

    private Map<Integer, Integer> far(int from) {
        Map<Integer, Integer> far = new HashMap<>();
        ArrayDeque<Integer> queue = new ArrayDeque<>(List.of(from));
        far.put(from, 0);
        while (!queue.isEmpty()) {
            int c = queue.remove();
            for (int way = 0; way < 4; way++) {
                int to = neighbour(c, way);
                if (to >= 0 && !far.containsKey(to)) {
                    far.put(to, far.get(c) + 1);
                    queue.add(to);
                }
            }
        }
        return far;
    }

    private int soonest(int from, int t) {
        Map<Integer, Integer> far = far(from);
        int hands = says(law, 2, from, step, t, things.get(t).more);
        return firstOf(k -> far.getOrDefault(behind(t, k).cell, 99999) <= k * hands);
    }

    int hand(int from, int t) {
        return !free(from) || no(t) ? -5 : soonest(from, t);
    }

    int first(int from, int what) {
        if (!free(from)) {
            return -5;
        }
        if (!in(what, 1)) {
            return -7;
        }
        TreeMap<Integer, Integer> best = new TreeMap<>();
        for (int t = 0; t < things.size(); t++) {
            int k = soonest(from, t);
            if (k >= 0) {
                T u = things.get(t);
                best.putIfAbsent(what == 0 ? k : -says(law, 1, u.cell, step, t, u.more), t);
            }
        }
        return best.isEmpty() ? -1 : best.firstEntry().getValue();
    }

    int wait(int t, int what) {
        if (no(t)) {
            return -5;
        }
        if (!in(what, 1)) {
            return -7;
        }
        TreeMap<Integer, Integer> best = new TreeMap<>();
        for (int c = 0; c < 30; c++) {
            if (free(c) && c != things.get(t).cell && soonest(c, t) >= 0) {
                best.putIfAbsent(soonest(c, t), c);
            }
        }
        return best.isEmpty() ? -1 : what == 0 ? best.firstEntry().getValue() : best.firstKey();
    }

    int toss(int t, int fromTo, int what) {
        if (no(t)) {
            return -5;
        }
        if (!in(fromTo, 2999) || !free(fromTo / 100) || !in(fromTo % 100, 29) || !in(what, 1)) {
            return -7;
        }
        TreeMap<Integer, Integer> best = new TreeMap<>();
        for (int way = 0; way < 4; way++) {
            T u = letGo(t, way);
            u.cell = fromTo / 100;
            int k = firstOf(n -> behind(u, n, law).cell == fromTo % 100);
            if (k >= 0) {
                best.putIfAbsent(k, way);
            }
        }
        return best.isEmpty() ? -1 : what == 0 ? best.firstEntry().getValue() : best.firstKey();
    }

    int key() {
        int n = 0;
        for (T t : things) {
            if (t.way != 4) {
                t.way = t.way == 3 ? 0 : t.way + 1;
                n++;
            }
        }
        return n;
    }

    private int whenTurned(int t, int c, int at) {
        T u = things.get(t).copy();
        for (int k = 0; k <= 40; k++) {
            if (u.cell == c) {
                return k;
            }
            if (k == at && u.way != 4) {
                u.way = u.way == 3 ? 0 : u.way + 1;
            }
            step(u, step + k, law);
        }
        return 99;
    }

    int turn(int t, int c, int what) {
        if (no(t)) {
            return -5;
        }
        if (!in(c, 29) || !in(what, 1)) {
            return -7;
        }
        int without = whenTurned(t, c, 99), best = without, at = -1;
        for (int k = 20; k >= 0; k--) {
            int then = whenTurned(t, c, k);
            if (then < without && then <= best) {
                best = then;
                at = k;
            }
        }
        return what == 0 ? at : best == 99 ? -1 : best;
    }

    private int caught(int n) {
        int caught = 0;
        for (int t = 0; t < things.size(); t++) {
            caught += has[1][behind(t, n).cell] ? 1 : 0;
        }
        return caught;
    }

    int net(int n, int what) {
        if (!in(n, 40) || !in(what, 1)) {
            return -2;
        }
        int best = caught(n), cell = -1;
        for (int c = 0; c < 30; c++) {
            if (!has[0][c] && !has[1][c]) {
                has[1][c] = true;
                if (caught(n) > best) {
                    best = caught(n);
                    cell = c;
                }
                has[1][c] = false;
            }
        }
        return what == 0 ? cell : best;
    }

    private List<Integer> five(int t, int n) {
        List<Integer> five = new ArrayList<>();
        for (int way = 0; way < 5; way++) {
            five.add(behind(letGo(t, way), n, law).cell);
        }
        return five;
    }

    int can(int t, int n) {
        if (no(t)) {
            return -5;
        }
        return in(n, 40) ? new TreeSet<>(five(t, n)).stream().mapToInt(c -> 1 << c).sum() : -7;
    }

    private LinkedHashMap<Integer, Integer> byMost(int t, int n) {
        TreeMap<Integer, Integer> counts = new TreeMap<>();
        five(t, n).forEach(c -> counts.merge(c, 1, Integer::sum));
        List<Integer> cells = new ArrayList<>(counts.keySet());
        cells.sort((a, b) -> counts.get(b) - counts.get(a));
        LinkedHashMap<Integer, Integer> sorted = new LinkedHashMap<>();
        cells.forEach(c -> sorted.put(c, counts.get(c)));
        return sorted;
    }

    int look(int t, int n, int what) {
        if (no(t)) {
            return -5;
        }
        if (!in(n, 40) || !in(what, 1)) {
            return -7;
        }
        Map.Entry<Integer, Integer> most = byMost(t, n).entrySet().iterator().next();
        return what == 0 ? most.getKey() : most.getValue();
    }

    int went(int t, int n, int c) {
        if (no(t)) {
            return -5;
        }
        if (!in(n, 40) || !in(c, 29)) {
            return -7;
        }
        int bits = 0;
        for (int way = 0; way < 5; way++) {
            bits += five(t, n).get(way) == c ? 1 << way : 0;
        }
        return bits;
    }

    private static long lowest(int above, int below, int part) {
        for (int f = 2; f <= below; f++) {
            while (above % f == 0 && below % f == 0) {
                above /= f;
                below /= f;
            }
        }
        return part == 0 ? above : below;
    }

    long search(int t, int n, int part) {
        if (no(t) || !in(n, 40) || !in(part, 1)) {
            return NO;
        }
        List<Integer> order = new ArrayList<>(byMost(t, n).keySet());
        int sum = 0;
        for (int c : five(t, n)) {
            sum += order.indexOf(c) + 1;
        }
        return lowest(sum, 5, part);
    }

    private int refused(int s) {
        if (!in(s, 3)) {
            return -2;
        }
        return rows[s] == null ? -11 : rows[s].v.length != things.size() ? -2 : 0;
    }

    private int elsewhere(int s, int n, int law) {
        for (int t = 0; t < things.size(); t++) {
            if (behind(things.get(t), n, law).cell != rows[s].v[t]) {
                return t;
            }
        }
        return -1;
    }

    int judge(int s, int n) {
        return refused(s) != 0 ? refused(s) : in(n, 40) ? elsewhere(s, n, law) : -7;
    }

    long times(int s) {
        if (refused(s) != 0) {
            return NO;
        }
        long bits = 0;
        for (int n = 0; n <= 40; n++) {
            bits += elsewhere(s, n, law) == -1 ? 1L << n : 0;
        }
        return bits;
    }

    int laws(int s, int n) {
        if (refused(s) != 0) {
            return refused(s);
        }
        if (!in(n, 40)) {
            return -7;
        }
        int bits = 0;
        for (int l = 0; l < texts.size(); l++) {
            bits += elsewhere(s, n, l) == -1 ? 1 << l : 0;
        }
        return bits;
    }

    int film(int s, int n) {
        if (!in(s, 3)) {
            return -2;
        }
        if (!in(n, 40)) {
            return -7;
        }
        rows[s] = new Row(2, things.size());
        for (int t = 0; t < things.size(); t++) {
            rows[s].v[t] = behind(t, n).cell;
        }
        return things.size();
    }

    private int drawnIn(int seed, int n, int c) {
        java.math.BigInteger lot = java.math.BigInteger.valueOf(seed + 1L);
        int there = 0;
        for (int t = 0; t < things.size(); t++) {
            lot = lot.multiply(java.math.BigInteger.valueOf(48271)).mod(java.math.BigInteger.valueOf(2147483647));
            T u = letGo(t, lot.mod(java.math.BigInteger.valueOf(5)).intValue());
            there += behind(u, n, law).cell == c ? 1 : 0;
        }
        return there;
    }

    int drawn(int seed, int n, int c) {
        return in(seed, 99999) && in(n, 40) && in(c, 29) ? drawnIn(seed, n, c) : -2;
    }

    long mean(int seed, int seeds, int nCell, int part) {
        if (!in(seed, 99999) || !in(seeds, 40) || seeds == 0 || !in(nCell, 4029) || nCell % 100 > 29
            || !in(part, 1)) {
            return NO;
        }
        int sum = 0;
        for (int i = 0; i < seeds; i++) {
            sum += drawnIn(seed + i, nCell / 100, nCell % 100);
        }
        return lowest(sum, seeds, part);
    }

    private static boolean[][] copyOf(boolean[][] has) {
        return new boolean[][] {has[0].clone(), has[1].clone(), has[2].clone()};
    }

    private static List<T> copyOf(List<T> things) {
        List<T> copies = new ArrayList<>(things);
        copies.replaceAll(T::copy);
        return copies;
    }

    int image() {
        image = new Image(copyOf(has), step, law, copyOf(things));
        return things.size();
    }

    int back() {
        if (image == null) {
            return -3;
        }
        has = copyOf(image.has);
        step = image.step;
        law = image.law;
        things = copyOf(image.things);
        return things.size();
    }

    int sheet(int s, int sort, int n) {
        if (!in(s, 3) || !in(sort + 1, 3) || sort >= 0 && n > 40) {
            return -2;
        }
        if (sort >= 0 && n < 0) {
            return -14;
        }
        rows[s] = sort < 0 ? null : new Row(sort, n);
        return 1;
    }

    int cell(int s, int i, int v) {
        if (!in(s, 3)) {
            return -2;
        }
        if (rows[s] == null) {
            return -11;
        }
        if (!in(i, rows[s].v.length - 1)) {
            return -12;
        }
        rows[s].v[i] = rows[s].sort == 0 ? (byte) v : rows[s].sort == 1 ? (short) v : v;
        return 1;
    }

    int copy(int s, int i, int other, int j, int n) {
        if (!in(s, 3) || !in(other, 3)) {
            return -2;
        }
        if (rows[s] == null || rows[other] == null) {
            return -11;
        }
        if (rows[s].sort != rows[other].sort) {
            return -13;
        }
        int[] were = rows[s].v.clone();
        int[] to = rows[other].v;
        if (i < 0 || j < 0 || n < 0 || (long) i + n > were.length || (long) j + n > to.length) {
            return -12;
        }
        for (int k = 0; k < n; k++) {
            to[j + k] = were[i + k];
        }
        return n;
    }

    int thingsBy(int s, int sort, int at, int n) {
        if (!in(s, 3) || !in(sort, 2) || !in(n, 5)) {
            return -2;
        }
        if (rows[s] == null) {
            return -11;
        }
        if (rows[s].sort != sort) {
            return -13;
        }
        int came = 0;
        for (long k = at; k < at + 3L * n; k += 3) {
            if (k < 0 || k + 2 >= rows[s].v.length) {
                return -12;
            }
            int[] v = rows[s].v;
            came += thing(v[(int) k], v[(int) k + 1], v[(int) k + 2]) >= 0 ? 1 : 0;
        }
        return came;
    }

    int taken(int i, int kind) {
        if (!in(kind, 6)) {
            return -2;
        }
        if (!in(i, 34)) {
            return -12;
        }
        if (i < 30 ? !has[1][i] && !has[2][i] : no(i - 30)) {
            return -11;
        }
        if (i < 30) {
            return kind != 6 ? -13 : has[1][i] ? 1 : 0;
        }
        return kind < 6 && isOne(things.get(i - 30).kind, kind) ? i - 30 : -13;
    }
}

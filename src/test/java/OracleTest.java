import java.lang.reflect.Array;
import java.util.ArrayList;
import java.util.IdentityHashMap;
import java.util.List;
import java.util.Random;

/**
 * Long random runs against a second notebook, written over real Java arrays and
 * java.lang.reflect.Array: the machine's own reflection decides there what widens to what.
 * No notebook gets more than the 512 calls that the document promises. So a run is made again
 * for each part of what is looked at when it ends.
 */
public final class OracleTest {
    private static final int RUNS = 3000, CALLS = 512, LAST_LOOK = 200, PARTS = 7;

    static class Stone {
        final int number;
        int weight;

        Stone(int number, int weight) {
            this.number = number;
            this.weight = weight;
        }
    }

    static final class Gem extends Stone {
        Gem(int number, int weight) {
            super(number, weight);
        }
    }

    /** The notebook as the document tells it, with what Java itself offers. */
    static final class Model {
        // Numbers and labels, but not stones, are Comparable: that is type 9.
        static final Class<?>[] TYPES = {
            boolean.class, byte.class, char.class, short.class, int.class, long.class, float.class, double.class,
            Integer.class, Comparable.class, Stone.class, Gem.class, String.class
        };
        static final Class<?>[] BOXES = {
            Boolean.class, Byte.class, Character.class, Short.class, Integer.class, Long.class, Float.class, Double.class
        };

        Object[] columns = new Object[10];
        Object[][] images = new Object[2][];
        Object display = 0;
        Object hand = null;
        Object clip = null;
        List<int[]> pairs = new ArrayList<>();
        int made = 0;
        int kept = -6;
        int[][] met = new int[19][6];

        static boolean column(int c) {
            return 0 <= c && c <= 9;
        }

        static boolean within(long x, long low, long high) {
            return low <= x && x <= high;
        }

        static int typeOf(Object array) {
            for (int t = 0; t < 13; t++) {
                if (array.getClass().getComponentType() == TYPES[t]) {
                    return t;
                }
            }
            throw new AssertionError();
        }

        static boolean isArray(Object x) {
            return x != null && x.getClass().isArray();
        }

        static Object box(int k, long v) {
            switch (k) {
                case 0: return v % 2 != 0;
                case 1: return (byte) v;
                case 2: return (char) v;
                case 3: return (short) v;
                case 4: return (int) v;
                case 5: return v;
                case 6: return (float) v / 8;
                default: return (double) v / 8;
            }
        }

        static int kindOf(Object x) {
            if (x == null) return 11;
            if (x instanceof Gem) return 9;
            if (x instanceof Stone) return 8;
            if (x instanceof String) return 10;
            for (int k = 0; k < 8; k++) {
                if (BOXES[k].isInstance(x)) return k;
            }
            throw new AssertionError();
        }

        static long code(Object x) {
            switch (kindOf(x)) {
                case 0: return (Boolean) x ? 1 : 0;
                case 2: return (Character) x;
                case 6: return Float.floatToIntBits((Float) x);
                case 7: return Double.doubleToLongBits((Double) x);
                default: return ((Number) x).longValue();
            }
        }

        static Object getAs(Object array, int i, int k) {
            switch (k) {
                case 0: return Array.getBoolean(array, i);
                case 1: return Array.getByte(array, i);
                case 2: return Array.getChar(array, i);
                case 3: return Array.getShort(array, i);
                case 4: return Array.getInt(array, i);
                case 5: return Array.getLong(array, i);
                case 6: return Array.getFloat(array, i);
                default: return Array.getDouble(array, i);
            }
        }

        static void setAs(Object array, int i, Object x, int k) {
            switch (k) {
                case 0: Array.setBoolean(array, i, (Boolean) x); break;
                case 1: Array.setByte(array, i, (Byte) x); break;
                case 2: Array.setChar(array, i, (Character) x); break;
                case 3: Array.setShort(array, i, (Short) x); break;
                case 4: Array.setInt(array, i, (Integer) x); break;
                case 5: Array.setLong(array, i, (Long) x); break;
                case 6: Array.setFloat(array, i, (Float) x); break;
                default: Array.setDouble(array, i, (Double) x); break;
            }
        }

        /** Whether Java lays x there (a null into an array of numbers is refused, too). */
        static boolean set(Object array, int i, Object x) {
            try {
                Array.set(array, i, x);
                return true;
            } catch (IllegalArgumentException | NullPointerException e) {
                return false;
            }
        }

        static Object copy(Object array) {
            return part(array, 0, Array.getLength(array));
        }

        static Object part(Object array, int from, int n) {
            Object part = Array.newInstance(array.getClass().getComponentType(), n);
            System.arraycopy(array, from, part, 0, n);
            return part;
        }

        int tally(int access, int answer) {
            met[access][answer]++;
            return answer;
        }

        int reach(Object x) {
            return x == null ? 1 : isArray(x) ? 0 : 2;
        }

        int open(int c, int what, int n) {
            if (!column(c)) return -1;
            if (!within(what, 0, 15)) return -2;
            if (what <= 12 && !within(n, 0, 24)) return -2;
            if (what == 14 && !within(n, 0, 99)) return -2;
            if (what == 13 && made == 60) return -4;
            if (what <= 12) columns[c] = Array.newInstance(TYPES[what], n);
            else if (what == 13) columns[c] = new Stone(++made, n);
            else if (what == 14) columns[c] = "" + n;
            else columns[c] = null;
            return 0;
        }

        int hang(int c, int to, int how) {
            if (!column(c) || !column(to)) return -1;
            if (!within(how, 0, 1)) return -2;
            int answer = how == 0 ? 0 : reach(columns[c]);
            if (answer == 0) columns[to] = how == 0 ? columns[c] : copy(columns[c]);
            return answer;
        }

        int same(int a, int b) {
            if (!column(a) || !column(b)) return -1;
            return isArray(columns[a]) && columns[a] == columns[b] ? 1 : 0;
        }

        int length(int c) {
            if (!column(c)) return -1;
            int answer = tally(18, reach(columns[c]));
            return answer == 0 ? Array.getLength(columns[c]) : -10 - answer;
        }

        int numberAnswer(Object x, int i) {
            if (reach(x) != 0) return reach(x);
            if (typeOf(x) >= 8) return 3;
            return within(i, 0, Array.getLength(x) - 1) ? 0 : 4;
        }

        int read(int c, int i, int k) {
            if (!column(c)) return -1;
            if (!within(k, 0, 7)) return -2;
            int answer = numberAnswer(columns[c], i);
            if (answer == 0) {
                try {
                    display = getAs(columns[c], i, k);
                } catch (IllegalArgumentException e) {
                    answer = 5;
                }
            }
            return tally(k, answer);
        }

        int write(int c, int i, int k, long v) {
            if (!column(c)) return -1;
            if (!within(k, 0, 7)) return -2;
            return put(c, i, k, box(k, v));
        }

        int put(int c, int i, int k, Object x) {
            int answer = numberAnswer(columns[c], i);
            if (answer == 0) {
                try {
                    setAs(columns[c], i, x, k);
                } catch (IllegalArgumentException e) {
                    answer = 5;
                }
            }
            return tally(9 + k, answer);
        }

        int cellAnswer(Object x, int i) {
            if (reach(x) != 0) return reach(x);
            return within(i, 0, Array.getLength(x) - 1) ? 0 : 4;
        }

        int take(int c, int i) {
            if (!column(c)) return -1;
            int answer = cellAnswer(columns[c], i);
            if (answer == 0) hand = Array.get(columns[c], i);
            return tally(8, answer);
        }

        int lay(int c, int i) {
            if (!column(c)) return -1;
            int answer = cellAnswer(columns[c], i);
            if (answer == 0 && !set(columns[c], i, hand)) answer = 5;
            return tally(17, answer);
        }

        int hand(int what, long v) {
            if (!within(what, 0, 11) || what == 10 && !within(v, 0, 99)) return -2;
            if ((what == 8 || what == 9) && made == 60) return -4;
            if (what <= 7) hand = box(what, v);
            else if (what == 8) hand = new Stone(++made, (int) v);
            else if (what == 9) hand = new Gem(++made, (int) v);
            else if (what == 10) hand = "" + v;
            else hand = null;
            return 0;
        }

        long inHand(int what) {
            int kind = kindOf(hand);
            switch (what) {
                case 0:
                    return kind;
                case 1:
                    if (hand == null) return 0;
                    if (hand instanceof Stone) return ((Stone) hand).weight;
                    return kind == 10 ? Long.parseLong((String) hand) : code(hand);
                case 2:
                    return hand instanceof Stone ? ((Stone) hand).number : 0;
                default:
                    return -2;
            }
        }

        int chip(int n) {
            return hand instanceof Stone ? ((Stone) hand).weight += n : -3;
        }

        int cut(int c, int from, int n) {
            if (!column(c)) return -1;
            Object old = columns[c];
            if (reach(old) != 0) return reach(old);
            int length = Array.getLength(old);
            if (from < 0 || n < 1 || (long) from + n > length) return 4;
            clip = part(old, from, n);
            Object rest = Array.newInstance(old.getClass().getComponentType(), length - n);
            System.arraycopy(old, 0, rest, 0, from);
            System.arraycopy(old, from + n, rest, from, length - n - from);
            columns[c] = rest;
            return 0;
        }

        int paste(int c, int place) {
            if (!column(c)) return -1;
            if (clip == null) return -3;
            Object old = columns[c];
            int n = Array.getLength(clip);
            if (isArray(old) && Array.getLength(old) + n > 24) return -4;
            if (reach(old) != 0) return reach(old);
            int length = Array.getLength(old);
            if (!within(place, 0, length)) return 4;
            Object now = Array.newInstance(old.getClass().getComponentType(), length + n);
            System.arraycopy(old, 0, now, 0, place);
            System.arraycopy(old, place, now, place + n, length - place);
            for (int i = 0; i < n; i++) {
                if (!set(now, place + i, Array.get(clip, i))) {
                    display = i;
                    return 5;
                }
            }
            columns[c] = now;
            return 0;
        }

        /** The converted array, or the index of the first element that cannot be converted. */
        static Object turned(Object old, int kind) {
            Object now = Array.newInstance(TYPES[kind], Array.getLength(old));
            for (int i = 0; i < Array.getLength(old); i++) {
                if (!set(now, i, Array.get(old, i))) return i;
            }
            return now;
        }

        int turn(int c, int kind) {
            if (!column(c)) return -1;
            if (!within(kind, 0, 12)) return -2;
            if (reach(columns[c]) != 0) return reach(columns[c]);
            Object now = turned(columns[c], kind);
            if (!isArray(now)) {
                display = now;
                return 5;
            }
            columns[c] = now;
            return 0;
        }

        int fits(int c) {
            if (!column(c)) return -1;
            int set = 0;
            for (int t = 0; t < 13 && isArray(columns[c]); t++) {
                if (isArray(turned(columns[c], t))) set |= 1 << t;
            }
            return set;
        }

        int pour(int c, int cell, int to, int place, int k) {
            if (!column(c) || !column(to)) return -1;
            if (!within(k, 0, 8)) return -2;
            for (int n = 0;; n++) {
                kept = k == 8 ? take(c, cell + n) : read(c, cell + n, k);
                if (kept != 0) return n;
                kept = k == 8 ? lay(to, place + n) : put(to, place + n, k, display);
                if (kept != 0) return n;
            }
        }

        List<Object> all(int c, int k) {
            List<Object> got = new ArrayList<>();
            while ((kept = read(c, got.size(), k)) == 0) got.add(display);
            return got;
        }

        int sum(int c, int k) {
            if (!column(c)) return -1;
            if (!within(k, 1, 7)) return -2;
            List<Object> got = all(c, k);
            if (kept != 4) return -10 - kept;
            long l = 0;
            float f = 0;
            double d = 0;
            for (Object x : got) {
                if (k == 6) f += (Float) x;
                else if (k == 7) d += (Double) x;
                else l += code(x);
            }
            if (k == 6) display = f;
            else if (k == 7) display = d;
            else display = l;
            return 0;
        }

        static int compare(Object a, Object b, int k) {
            if (k == 6) return Float.compare((Float) a, (Float) b);
            if (k == 7) return Double.compare((Double) a, (Double) b);
            return Long.compare(code(a), code(b));
        }

        int where(int c, int k, int how, long v) {
            if (!column(c)) return -1;
            if (!within(k, 0, 7) || !within(how, 0, 2)) return -2;
            List<Object> got = all(c, k);
            if (kept != 4) return -10 - kept;
            Object asked = box(Math.max(k, 5), v);
            pairs = new ArrayList<>();
            for (int i = 0; i < got.size(); i++) {
                if (Integer.signum(compare(got.get(i), asked, k)) == how - 1) pairs.add(new int[] {i, i});
            }
            return pairs.size();
        }

        int meet(int c, int other, int k) {
            if (!column(c) || !column(other)) return -1;
            if (!within(k, 0, 7)) return -2;
            List<Object> one = all(c, k);
            if (kept != 4) return -10 - kept;
            List<Object> two = all(other, k);
            if (kept != 4) return -10 - kept;
            List<int[]> found = new ArrayList<>();
            for (int i = 0; i < one.size(); i++) {
                for (int j = 0; j < two.size(); j++) {
                    if (compare(one.get(i), two.get(j), k) == 0) found.add(new int[] {i, j});
                }
            }
            if (found.size() > 24) return -4;
            pairs = found;
            return found.size();
        }

        int pair(int i, int what) {
            if (!within(what, 0, 1)) return -2;
            return within(i, 0, pairs.size() - 1) ? pairs.get(i)[what] : -6;
        }

        int gather(int c, int side, int to) {
            if (!column(c) || !column(to)) return -1;
            if (!within(side, 0, 1)) return -2;
            if (reach(columns[c]) != 0) return reach(columns[c]);
            Object now = Array.newInstance(columns[c].getClass().getComponentType(), pairs.size());
            for (int i = 0; i < pairs.size(); i++) {
                if (pairs.get(i)[side] >= Array.getLength(columns[c])) return 4;
                Array.set(now, i, Array.get(columns[c], pairs.get(i)[side]));
            }
            columns[to] = now;
            return 0;
        }

        static Object[] deep(Object[] from) {
            IdentityHashMap<Object, Object> copies = new IdentityHashMap<>();
            Object[] to = new Object[10];
            for (int i = 0; i < 10; i++) {
                to[i] = isArray(from[i]) ? copies.computeIfAbsent(from[i], Model::copy) : from[i];
            }
            return to;
        }

        int image(int k) {
            if (!within(k, 0, 1)) return -2;
            images[k] = deep(columns);
            return 1;
        }

        int restore(int k) {
            if (!within(k, 0, 1)) return -2;
            if (images[k] == null) return -3;
            columns = deep(images[k]);
            return 1;
        }

        int met(int asker, int answer) {
            return within(asker, 0, 18) && within(answer, 0, 5) ? met[asker][answer] : -2;
        }

        int count(int what) {
            switch (what) {
                case 0: return kept;
                case 1: return pairs.size();
                case 2: return clip == null ? -6 : Array.getLength(clip);
                case 3: return clip == null ? -6 : typeOf(clip);
                case 4: return made;
                case 5:
                    int n = 0;
                    for (int[] row : met) for (int x : row) n += x > 0 ? 1 : 0;
                    return n;
                default:
                    if (!within(what, 10, 19)) return -2;
                    Object x = columns[what - 10];
                    return x == null ? 15 : isArray(x) ? typeOf(x) : x instanceof Stone ? 13 : 14;
            }
        }
    }

    private final Random random;
    private final CoreBook book = new CoreBook();
    private final Model model = new Model();
    /** A run keeps to few columns and small numbers, or calls would seldom bear on one another. */
    private final int columns;
    private final boolean looking;
    private final StringBuilder log = new StringBuilder();
    private int calls = 0;

    private OracleTest(long seed) {
        random = new Random(seed);
        columns = 2 + random.nextInt(9);
        looking = random.nextBoolean();
    }

    private static final int[] ODD = {Integer.MIN_VALUE, Integer.MAX_VALUE, -1, -2, -5, 100, 1000, 25, 30, -24, 1 << 16};

    private int odd() {
        return ODD[random.nextInt(ODD.length)];
    }

    private int column() {
        return random.nextInt(60) == 0 ? (random.nextBoolean() ? 10 : odd()) : random.nextInt(columns);
    }

    private int upTo(int last) {
        return random.nextInt(40) == 0 ? (random.nextBoolean() ? last + 1 : odd()) : random.nextInt(last + 1);
    }

    private int cell() {
        return random.nextInt(30) == 0 ? odd() : random.nextInt(random.nextInt(4) == 0 ? 25 : 5);
    }

    private long value() {
        switch (random.nextInt(8)) {
            case 0: return random.nextLong();
            case 1: return random.nextInt();
            case 2: return random.nextBoolean() ? Long.MIN_VALUE : Long.MAX_VALUE - random.nextInt(2);
            case 3: return (random.nextLong() >> random.nextInt(64));
            case 4: return random.nextInt(1 << 17) - (1 << 16);
            default: return random.nextInt(5) - 1;
        }
    }

    private int size() {
        return random.nextInt(20) == 0 ? odd() : random.nextInt(random.nextInt(3) == 0 ? 25 : 6);
    }

    private boolean step(String call, long got, long want) {
        calls++;
        log.append(call).append(" answered ").append(got).append('\n');
        if (got != want) {
            log.append("  due is ").append(want).append('\n');
        }
        return got == want;
    }

    private boolean looks() {
        boolean right = step("glass()", book.glass(), Model.code(model.display));
        for (int i = 0; i < 3; i++) {
            right &= step("inHand(" + i + ")", book.inHand(i), model.inHand(i));
        }
        return right;
    }

    private boolean call() {
        int c = column();
        int d = column();
        int i = cell();
        int j = cell();
        int n = size();
        long v = value();
        int k7 = upTo(7);
        switch (random.nextInt(27)) {
            case 0: case 1: {
                int what = random.nextInt(4) == 0 ? upTo(15) : random.nextInt(13);
                return step("open(" + c + ", " + what + ", " + n + ")", book.open(c, what, n), model.open(c, what, n));
            }
            case 2: {
                int how = upTo(1);
                return step("hang(" + c + ", " + d + ", " + how + ")", book.hang(c, d, how), model.hang(c, d, how));
            }
            case 3:
                return step("same(" + c + ", " + d + ")", book.same(c, d), model.same(c, d));
            case 4:
                return step("length(" + c + ")", book.length(c), model.length(c));
            case 5:
                return step("read(" + c + ", " + i + ", " + k7 + ")", book.read(c, i, k7), model.read(c, i, k7));
            case 6: case 7: case 8:
                return step("write(" + c + ", " + i + ", " + k7 + ", " + v + ")", book.write(c, i, k7, v), model.write(c, i, k7, v));
            case 9:
                return step("take(" + c + ", " + i + ")", book.take(c, i), model.take(c, i));
            case 10: case 11:
                return step("lay(" + c + ", " + i + ")", book.lay(c, i), model.lay(c, i));
            case 12: {
                int what = upTo(11);
                return step("hand(" + what + ", " + v + ")", book.hand(what, v), model.hand(what, v));
            }
            case 13: {
                int what = upTo(2);
                return step("inHand(" + what + ")", book.inHand(what), model.inHand(what))
                    & step("chip(" + n + ")", book.chip(n), model.chip(n));
            }
            case 14:
                return step("cut(" + c + ", " + i + ", " + n + ")", book.cut(c, i, n), model.cut(c, i, n));
            case 15:
                return step("paste(" + c + ", " + i + ")", book.paste(c, i), model.paste(c, i));
            case 16: {
                int kind = upTo(12);
                return step("turn(" + c + ", " + kind + ")", book.turn(c, kind), model.turn(c, kind));
            }
            case 17:
                return step("fits(" + c + ")", book.fits(c), model.fits(c));
            case 18: case 19: {
                int k = upTo(8);
                return step("pour(" + c + ", " + i + ", " + d + ", " + j + ", " + k + ")",
                    book.pour(c, i, d, j, k), model.pour(c, i, d, j, k));
            }
            case 20:
                return step("sum(" + c + ", " + k7 + ")", book.sum(c, k7), model.sum(c, k7));
            case 21: {
                int how = upTo(2);
                return step("where(" + c + ", " + k7 + ", " + how + ", " + v + ")",
                    book.where(c, k7, how, v), model.where(c, k7, how, v));
            }
            case 22:
                return step("meet(" + c + ", " + d + ", " + k7 + ")", book.meet(c, d, k7), model.meet(c, d, k7));
            case 23: {
                int what = upTo(1);
                return step("pair(" + i + ", " + what + ")", book.pair(i, what), model.pair(i, what));
            }
            case 24: {
                int side = upTo(1);
                return step("gather(" + c + ", " + side + ", " + d + ")", book.gather(c, side, d), model.gather(c, side, d));
            }
            case 25: {
                int k = upTo(1);
                return random.nextBoolean() ? step("image(" + k + ")", book.image(k), model.image(k))
                    : step("restore(" + k + ")", book.restore(k), model.restore(k));
            }
            default: {
                int asker = upTo(18);
                int answer = upTo(5);
                int what = upTo(20);
                return step("met(" + asker + ", " + answer + ")", book.met(asker, answer), model.met(asker, answer))
                    & step("count(" + what + ")", book.count(what), model.count(what));
            }
        }
    }

    /** Looks at one part of everything that can be seen; the last parts are two columns each. */
    private boolean lastLook(int part) {
        if (part == 0) {
            return looks() & seesCounts() & seesPairs();
        }
        if (part == 1) {
            return seesSame();
        }
        int column = 2 * (part - 2);
        return seesElements(column) & seesElements(column + 1);
    }

    private boolean seesCounts() {
        boolean right = true;
        for (int what = 0; what < 20; what++) {
            right &= step("count(" + what + ")", book.count(what), model.count(what));
        }
        for (int asker = 0; asker < 19; asker++) {
            for (int answer = 0; answer < 6; answer++) {
                right &= step("met(" + asker + ", " + answer + ")", book.met(asker, answer), model.met(asker, answer));
            }
        }
        return right;
    }

    private boolean seesPairs() {
        boolean right = true;
        for (int i = 0; i < 25; i++) {
            right &= step("pair(" + i + ", 0)", book.pair(i, 0), model.pair(i, 0));
            right &= step("pair(" + i + ", 1)", book.pair(i, 1), model.pair(i, 1));
        }
        return right;
    }

    private boolean seesSame() {
        boolean right = true;
        for (int c = 0; c < 10; c++) {
            for (int d = 0; d < 10; d++) {
                right &= step("same(" + c + ", " + d + ")", book.same(c, d), model.same(c, d));
            }
        }
        return right;
    }

    private boolean seesElements(int column) {
        boolean right = true;
        for (int i = 0; i < 24; i++) {
            right &= step("take(" + column + ", " + i + ")", book.take(column, i), model.take(column, i));
            for (int what = 0; what < 3; what++) {
                right &= step("inHand(" + what + ")", book.inHand(what), model.inHand(what));
            }
        }
        return right;
    }

    /** Makes stones until few are left, or no run would come to the last one. */
    private boolean useUpStones() {
        boolean right = true;
        for (int i = 0; i < 58; i++) {
            right &= step("hand(9, " + i + ")", book.hand(9, i), model.hand(9, i));
        }
        return right;
    }

    /** A run that ends with a look at this part, or goes on to the last call if it is PARTS. */
    private boolean run(int part) {
        int last = part < PARTS ? CALLS - LAST_LOOK : CALLS;
        try {
            if (random.nextInt(5) == 0 && !useUpStones()) {
                return false;
            }
            // A call with its looks is at most six calls of the book.
            while (calls + 6 <= last) {
                if (!call() || (looking && !looks())) {
                    return false;
                }
            }
            return part == PARTS || lastLook(part);
        } catch (RuntimeException e) {
            log.append("  threw ").append(e).append('\n');
            return false;
        }
    }

    private static void fail(int seed, OracleTest test) {
        String log = test.log.toString();
        System.out.println("run " + seed + " ends so:\n" + log.substring(Math.max(0, log.length() - 4000)));
        System.exit(1);
    }

    public static void main(String[] args) {
        int[] answered = new int[120];
        for (int seed = 1; seed <= RUNS; seed++) {
            for (int part = 0; part <= PARTS; part++) {
                OracleTest test = new OracleTest(seed);
                if (!test.run(part)) {
                    fail(seed, test);
                }
                for (int i = 0; i < 114; i++) {
                    answered[i] += test.model.met[i / 6][i % 6];
                }
            }
        }
        // The runs are worth little if they do not come to each answer that an access can have.
        for (int i = 0; i < 114; i++) {
            if (answered[i] == 0 && possible(i / 6, i % 6)) {
                System.out.println("no run came to answer " + i % 6 + " of access " + i / 6);
                System.exit(1);
            }
        }
        System.out.println(RUNS + " runs are as due");
    }

    private static boolean possible(int access, int answer) {
        boolean number = access < 8 || access >= 9 && access <= 16;
        switch (answer) {
            case 3: return number;
            case 4: return access != 18;
            case 5: return access != 18 && access != 8;
            default: return true;
        }
    }
}

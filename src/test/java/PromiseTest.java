/** Each promise of the document by itself: ordinary inputs, its edges, and wrong inputs. */
public final class PromiseTest {
    private static final int UNKNOWN = -1, WRONG = -2, STATE = -3, FULL = -4, NONE = -6, MISS = -10;
    private static final int DONE = 0, NOTHING = 1, NO_ROW = 2, THINGS = 3, BEYOND = 4, UNFIT = 5;
    private static final int[] NO_COLUMNS = {-1, 10, Integer.MIN_VALUE, Integer.MAX_VALUE};
    private static final int[] FAR = {-1, -2, Integer.MIN_VALUE, Integer.MAX_VALUE};

    /** By the document's table: WIDENS[a][b] is 1 if type a widens to type b. */
    private static final int[][] WIDENS = {
        {1, 0, 0, 0, 0, 0, 0, 0},
        {0, 1, 0, 1, 1, 1, 1, 1},
        {0, 0, 1, 0, 1, 1, 1, 1},
        {0, 0, 0, 1, 1, 1, 1, 1},
        {0, 0, 0, 0, 1, 1, 1, 1},
        {0, 0, 0, 0, 0, 1, 1, 1},
        {0, 0, 0, 0, 0, 0, 1, 1},
        {0, 0, 0, 0, 0, 0, 0, 1},
    };

    private static int wrong = 0;
    private static int promise = 0;

    public static void main(String[] args) {
        promise = 1; newObject();
        promise = 2; open();
        promise = 3; hang();
        promise = 4; same();
        promise = 5; length();
        promise = 6; read();
        promise = 7; glass();
        promise = 8; write();
        promise = 9; take();
        promise = 10; lay();
        promise = 11; hand();
        promise = 12; inHand();
        promise = 13; chip();
        promise = 14; cut();
        promise = 15; paste();
        promise = 16; turn();
        promise = 17; fits();
        promise = 18; pour();
        promise = 19; sum();
        promise = 20; where();
        promise = 21; meet();
        promise = 22; pair();
        promise = 23; gather();
        promise = 24; image();
        promise = 25; restore();
        promise = 26; met();
        promise = 27; count();
        System.out.println(wrong == 0 ? "all promises are kept" : wrong + " answers are not as due");
        if (wrong != 0) {
            System.exit(1);
        }
    }

    // ---- what the tests are written with

    private static void due(String what, long got, long want) {
        if (got != want) {
            wrong++;
            System.out.println("promise " + promise + ": " + what + " answered " + got + ", due is " + want);
        }
    }

    private static long bits(float x) {
        return Float.floatToIntBits(x);
    }

    private static long bits(double x) {
        return Double.doubleToLongBits(x);
    }

    /** Opens an array of a number type and writes these numbers into it. */
    private static void fill(CoreBook x, int column, int type, long... values) {
        due("open", x.open(column, type, values.length), DONE);
        for (int i = 0; i < values.length; i++) {
            due("fill: write", x.write(column, i, type, values[i]), DONE);
        }
    }

    /** Tests the numbers of an array by taking each, which changes the hand. */
    private static void holds(CoreBook x, String what, int column, long... codes) {
        due(what + ": length", x.length(column), codes.length);
        for (int i = 0; i < codes.length; i++) {
            due(what + ": take " + i, x.take(column, i), DONE);
            due(what + ": element " + i, x.inHand(1), codes[i]);
        }
    }

    private static void shows(CoreBook x, String what, long code) {
        due(what + ": glass", x.glass(), code);
    }

    private static int accesses(CoreBook x) {
        int n = 0;
        for (int asker = 0; asker < 19; asker++) {
            for (int answer = 0; answer < 6; answer++) {
                n += x.met(asker, answer);
            }
        }
        return n;
    }

    /** A notebook with nothing, a stone, a label and the arrays that edges need. */
    private static CoreBook stocked() {
        CoreBook x = new CoreBook();
        x.open(1, 13, 7);
        x.open(2, 14, 42);
        fill(x, 3, 4, 10, 20, 30);
        x.open(4, 9, 3);
        x.open(5, 10, 2);
        x.open(6, 4, 0);
        return x;
    }

    // ---- 1 what hangs

    private static void newObject() {
        CoreBook x = new CoreBook();
        for (int c = 0; c < 10; c++) {
            due("count of a column", x.count(10 + c), 15);
            due("same", x.same(c, c), 0);
        }
        shows(x, "new", 0);
        due("inHand(0)", x.inHand(0), 11);
        due("inHand(1)", x.inHand(1), 0);
        due("inHand(2)", x.inHand(2), 0);
        due("count(0)", x.count(0), NONE);
        due("count(1)", x.count(1), 0);
        due("count(2)", x.count(2), NONE);
        due("count(3)", x.count(3), NONE);
        due("count(4)", x.count(4), 0);
        due("count(5)", x.count(5), 0);
        due("accesses", accesses(x), 0);
        due("pair", x.pair(0, 0), NONE);
        due("restore(0)", x.restore(0), STATE);
        due("restore(1)", x.restore(1), STATE);
        due("paste", x.paste(0, 0), STATE);
        CoreBook y = new CoreBook();
        y.open(0, 4, 2);
        y.image(0);
        due("another object", x.count(10), 15);
        due("another object's image", x.restore(0), STATE);
    }

    private static void open() {
        CoreBook x = new CoreBook();
        for (int type = 0; type <= 12; type++) {
            due("open", x.open(9, type, 24), DONE);
            due("type", x.count(19), type);
            due("length", x.length(9), 24);
            due("take", x.take(9, 23), DONE);
            due("kind of element", x.inHand(0), type < 8 ? type : 11);
            due("element", x.inHand(1), 0);
            due("open short", x.open(9, type, 0), DONE);
            due("length 0", x.length(9), 0);
            due("too long", x.open(9, type, 25), WRONG);
            due("negative", x.open(9, type, -1), WRONG);
            due("most negative", x.open(9, type, Integer.MIN_VALUE), WRONG);
        }
        due("still there", x.length(9), 0);
        due("label", x.open(0, 14, 0), DONE);
        due("label", x.count(10), 14);
        due("label", x.open(0, 14, 99), DONE);
        due("label", x.open(0, 14, 100), WRONG);
        due("label", x.open(0, 14, -1), WRONG);
        due("nothing", x.open(0, 15, -77), DONE);
        due("nothing", x.count(10), 15);
        due("what", x.open(0, 16, 0), WRONG);
        due("what", x.open(0, -1, 0), WRONG);
        due("no stones yet", x.count(4), 0);
        for (int c : NO_COLUMNS) {
            due("no column", x.open(c, 99, 99), UNKNOWN);
        }
        due("stone", x.open(0, 13, Integer.MIN_VALUE), DONE);
        due("stone", x.count(10), 13);
        due("stones", x.count(4), 1);
        for (int i = 2; i <= 60; i++) {
            due("stone", x.open(0, 13, i), DONE);
        }
        x.open(0, 4, 1);
        due("61st stone", x.open(0, 13, 5), FULL);
        due("nothing changed", x.count(10), 4);
        due("stones", x.count(4), 60);
        due("stone and no column", x.open(10, 13, 5), UNKNOWN);
        due("stone after what", x.open(0, 17, 5), WRONG);
        due("others can be opened", x.open(0, 14, 5), DONE);
        fill(x, 3, 4, 8, 9);
        x.hang(3, 4, 0);
        x.open(3, 4, 2);
        holds(x, "a new array", 3, 0, 0);
        holds(x, "the old one stays elsewhere", 4, 8, 9);
    }

    private static void hang() {
        CoreBook x = stocked();
        due("array", x.hang(3, 7, 0), DONE);
        due("same", x.same(3, 7), 1);
        x.write(7, 1, 4, 99);
        holds(x, "through both", 3, 10, 99, 30);
        due("copy", x.hang(3, 8, 1), DONE);
        due("not the same", x.same(3, 8), 0);
        due("type of the copy", x.count(18), 4);
        x.write(8, 0, 4, 1);
        holds(x, "the copy", 8, 1, 99, 30);
        holds(x, "the original", 3, 10, 99, 30);
        due("onto itself", x.hang(3, 3, 0), DONE);
        due("same", x.same(3, 7), 1);
        due("copy onto itself", x.hang(3, 3, 1), DONE);
        due("no longer the same", x.same(3, 7), 0);
        int before = accesses(x);
        due("nothing, copied", x.hang(0, 3, 1), NOTHING);
        due("stone, copied", x.hang(1, 3, 1), NO_ROW);
        due("label, copied", x.hang(2, 3, 1), NO_ROW);
        due("nothing changed", x.count(13), 4);
        due("nothing counted", accesses(x), before);
        due("stone", x.hang(1, 3, 0), DONE);
        due("stone", x.count(13), 13);
        due("label", x.hang(2, 3, 0), DONE);
        due("label", x.count(13), 14);
        due("nothing", x.hang(0, 3, 0), DONE);
        due("nothing", x.count(13), 15);
        for (int c : NO_COLUMNS) {
            due("no column", x.hang(c, 0, 5), UNKNOWN);
            due("no column", x.hang(0, c, 5), UNKNOWN);
        }
        due("how", x.hang(7, 3, 2), WRONG);
        due("how", x.hang(7, 3, -1), WRONG);
        due("nothing changed", x.count(13), 15);
        x.hand(8, 5);
        x.lay(5, 0);
        x.hang(5, 0, 1);
        x.chip(4);
        x.take(0, 0);
        due("the same stone", x.inHand(1), 9);
        due("the same stone", x.inHand(2), 2);
    }

    private static void same() {
        CoreBook x = stocked();
        due("itself", x.same(3, 3), 1);
        due("other", x.same(3, 6), 0);
        due("equal arrays", x.open(7, 4, 0) + x.same(7, 6), 0);
        due("nothing", x.same(0, 9), 0);
        x.hang(1, 8, 0);
        due("one stone", x.same(1, 8), 0);
        due("one stone", x.same(1, 1), 0);
        due("label", x.same(2, 2), 0);
        due("array and stone", x.same(3, 1), 0);
        x.hang(3, 9, 0);
        due("shared", x.same(9, 3), 1);
        for (int c : NO_COLUMNS) {
            due("no column", x.same(c, 3), UNKNOWN);
            due("no column", x.same(3, c), UNKNOWN);
        }
        due("nothing is counted", accesses(x), accesses(stocked()));
    }

    private static void length() {
        CoreBook x = stocked();
        due("nothing", x.length(0), MISS - NOTHING);
        due("stone", x.length(1), MISS - NO_ROW);
        due("label", x.length(2), MISS - NO_ROW);
        due("array", x.length(3), 3);
        due("things", x.length(4), 3);
        due("empty", x.length(6), 0);
        for (int c : NO_COLUMNS) {
            due("no column", x.length(c), UNKNOWN);
        }
        due("counted", x.met(18, NOTHING), 1);
        due("counted", x.met(18, NO_ROW), 2);
        due("counted", x.met(18, DONE), 3);
        due("counted", accesses(x), 6 + accesses(stocked()));
    }

    // ---- 2 readers, pens, the hand

    private static void read() {
        for (int type = 0; type < 8; type++) {
            for (int k = 0; k < 8; k++) {
                CoreBook x = new CoreBook();
                fill(x, 0, type, 8);
                x.open(1, 4, 1);
                x.write(1, 0, 4, 777);
                x.read(1, 0, 4);
                int was = x.met(k, DONE);
                long number = type == 0 ? 0 : type < 6 ? 8 : 1;
                long code = k == 6 ? bits((float) number) : k == 7 ? bits((double) number) : number;
                String what = "type " + type + " as " + k;
                due(what, x.read(0, 0, k), WIDENS[type][k] == 1 ? DONE : UNFIT);
                shows(x, what, WIDENS[type][k] == 1 ? code : 777);
                due(what + " counted", x.met(k, UNFIT), 1 - WIDENS[type][k]);
                due(what + " counted", x.met(k, DONE), was + WIDENS[type][k]);
                due(what + " beyond", x.read(0, 1, k), BEYOND);
                due("the hand stays", x.inHand(0), 11);
            }
        }
        CoreBook x = stocked();
        x.read(3, 1, 4);
        for (int cell : new int[] {0, -1, 99}) {
            due("nothing", x.read(0, cell, 4), NOTHING);
            due("stone", x.read(1, cell, 4), NO_ROW);
            due("label", x.read(2, cell, 4), NO_ROW);
            due("things", x.read(4, cell, 4), THINGS);
            due("stones", x.read(5, cell, 4), THINGS);
            due("empty", x.read(6, cell, 0), BEYOND);
        }
        for (int cell : FAR) {
            due("beyond", x.read(3, cell, 0), BEYOND);
        }
        due("beyond", x.read(3, 3, 4), BEYOND);
        due("the last", x.read(3, 2, 4), DONE);
        shows(x, "the last", 30);
        int before = accesses(x);
        for (int c : NO_COLUMNS) {
            due("no column", x.read(c, 0, 8), UNKNOWN);
        }
        due("k", x.read(0, 0, 8), WRONG);
        due("k", x.read(3, 9, -1), WRONG);
        due("nothing counted", accesses(x), before);
        shows(x, "nothing changed", 30);
        for (int type = 8; type <= 12; type++) {
            x.open(0, type, 1);
            due("things", x.read(0, 0, 4), THINGS);
        }
    }

    private static void glass() {
        long[] values = {0, 1, -1, 3, 8, -8, 7, 127, 128, -129, 65535, 65536, 1L << 24, (1L << 24) + 1, (1L << 25) + 3,
            -(1L << 25) - 3, (1L << 53) + 1, (1L << 54) + 3, Long.MAX_VALUE, Long.MIN_VALUE, Long.MAX_VALUE - 511,
            1234567890123456789L, -987654321987654321L, 16777217 * 8L, 33554435 * 8L};
        for (long v : values) {
            CoreBook x = new CoreBook();
            fill(x, 0, 0, v);
            fill(x, 1, 1, v);
            fill(x, 2, 2, v);
            fill(x, 3, 3, v);
            fill(x, 4, 4, v);
            fill(x, 5, 5, v);
            fill(x, 6, 6, v);
            fill(x, 7, 7, v);
            float f = (float) v / 8;
            double d = (double) v / 8;
            long[][] codes = {
                {v & 1},
                {0, (byte) v, 0, (byte) v, (byte) v, (byte) v, bits((float) (byte) v), bits((double) (byte) v)},
                {0, 0, (char) v, 0, (char) v, (char) v, bits((float) (char) v), bits((double) (char) v)},
                {0, 0, 0, (short) v, (short) v, (short) v, bits((float) (short) v), bits((double) (short) v)},
                {0, 0, 0, 0, (int) v, (int) v, bits((float) (int) v), bits((double) (int) v)},
                {0, 0, 0, 0, 0, v, bits((float) v), bits((double) v)},
                {0, 0, 0, 0, 0, 0, bits(f), bits((double) f)},
                {0, 0, 0, 0, 0, 0, 0, bits(d)},
            };
            for (int type = 0; type < 8; type++) {
                for (int k = 0; k < 8; k++) {
                    if (WIDENS[type][k] == 1) {
                        due("read", x.read(type, 0, k), DONE);
                        shows(x, v + ", type " + type + " as " + k, codes[type][k]);
                    }
                }
            }
        }
    }

    private static void write() {
        for (int type = 0; type < 8; type++) {
            for (int k = 0; k < 8; k++) {
                CoreBook x = new CoreBook();
                fill(x, 0, type, 5, 5);
                int was = x.met(9 + k, DONE);
                String what = "type " + k + " into " + type;
                due(what, x.write(0, 1, k, 24), WIDENS[k][type] == 1 ? DONE : UNFIT);
                due(what + " counted", x.met(9 + k, UNFIT), 1 - WIDENS[k][type]);
                due(what + " counted", x.met(9 + k, DONE), was + WIDENS[k][type]);
                long v = WIDENS[k][type] == 0 ? 5 : type == 0 ? 0 : k >= 6 ? 3 : 24;
                double old = 5 / 8.0;
                boolean kept = WIDENS[k][type] == 0;
                long code = type == 6 ? bits(kept ? (float) old : (float) v)
                    : type == 7 ? bits(kept ? old : (double) v) : type == 0 && kept ? 1 : v;
                x.take(0, 1);
                due(what + " kind", x.inHand(0), type);
                due(what, x.inHand(1), code);
                shows(x, "the display stays", 0);
            }
        }
        CoreBook x = stocked();
        due("narrowed", x.write(3, 0, 1, -200), DONE);
        due("narrowed", x.write(3, 1, 2, -1), DONE);
        due("narrowed", x.write(3, 2, 3, 98304), DONE);
        holds(x, "narrowed", 3, 56, 65535, -32768);
        due("narrowed", x.write(3, 0, 4, (7L << 32) + 5), DONE);
        holds(x, "narrowed", 3, 5, 65535, -32768);
        x.open(7, 0, 3);
        x.write(7, 0, 0, -3);
        x.write(7, 1, 0, -4);
        x.write(7, 2, 0, Long.MAX_VALUE);
        holds(x, "odd or even", 7, 1, 0, 1);
        x.open(7, 7, 2);
        x.write(7, 0, 5, (1L << 53) + 1);
        x.write(7, 1, 6, (1L << 24) + 1);
        holds(x, "rounded", 7, bits((double) (1L << 53)), bits((double) (1L << 21)));
        for (int cell : new int[] {0, -1, 99}) {
            due("nothing", x.write(0, cell, 0, 1), NOTHING);
            due("stone", x.write(1, cell, 0, 1), NO_ROW);
            due("label", x.write(2, cell, 0, 1), NO_ROW);
            due("things", x.write(4, cell, 4, 1), THINGS);
            due("empty", x.write(6, cell, 7, 1), BEYOND);
        }
        for (int cell : FAR) {
            due("beyond", x.write(3, cell, 7, 1), BEYOND);
        }
        due("beyond", x.write(3, 3, 4, 1), BEYOND);
        int before = accesses(x);
        for (int c : NO_COLUMNS) {
            due("no column", x.write(c, 0, 8, 1), UNKNOWN);
        }
        due("k", x.write(0, 0, 8, 1), WRONG);
        due("k", x.write(3, 9, -1, 1), WRONG);
        due("nothing counted", accesses(x), before);
        holds(x, "nothing changed", 3, 5, 65535, -32768);
        for (int type = 8; type <= 12; type++) {
            x.open(0, type, 1);
            due("things", x.write(0, 0, 4, 1), THINGS);
        }
    }

    private static void take() {
        CoreBook x = stocked();
        for (int type = 0; type < 8; type++) {
            fill(x, 7, type, 9);
            due("take", x.take(7, 0), DONE);
            due("kind", x.inHand(0), type);
            due("code", x.inHand(1), type == 0 ? 1 : type < 6 ? 9 : type == 6 ? bits(1.125f) : bits(1.125));
        }
        x.open(7, 8, 2);
        x.hand(4, 6);
        x.lay(7, 1);
        due("take", x.take(7, 0), DONE);
        due("nothing", x.inHand(0), 11);
        due("take", x.take(7, 1), DONE);
        due("an int", x.inHand(0), 4);
        x.hand(3, 12);
        x.lay(4, 0);
        x.hand(10, 77);
        x.lay(4, 1);
        x.hand(8, 5);
        x.lay(5, 1);
        x.take(4, 0);
        due("own type", x.inHand(0), 3);
        due("code", x.inHand(1), 12);
        x.take(4, 1);
        due("label", x.inHand(0), 10);
        due("label", x.inHand(1), 77);
        x.take(4, 2);
        due("nothing", x.inHand(0), 11);
        x.take(5, 1);
        due("stone", x.inHand(0), 8);
        due("number of the stone", x.inHand(2), 2);
        x.take(5, 1);
        due("the element keeps it", x.inHand(2), 2);
        due("nothing", x.take(0, -1), NOTHING);
        due("stone", x.take(1, -1), NO_ROW);
        due("label", x.take(2, 0), NO_ROW);
        due("empty", x.take(6, 0), BEYOND);
        due("things", x.take(5, 2), BEYOND);
        for (int cell : FAR) {
            due("beyond", x.take(3, cell), BEYOND);
        }
        due("the hand stays", x.inHand(2), 2);
        int before = accesses(x);
        for (int c : NO_COLUMNS) {
            due("no column", x.take(c, 0), UNKNOWN);
        }
        due("nothing counted", accesses(x), before);
        due("counted", x.met(8, NOTHING), 1);
        due("counted", x.met(8, NO_ROW), 2);
        due("counted", x.met(8, BEYOND), 6);
        due("counted", x.met(8, DONE), 15);
        shows(x, "the display stays", 0);
    }

    private static void lay() {
        // What each kind of thing in the hand, 0 to 11, can be laid into, by section 1.
        int[][] homes = new int[12][13];
        for (int kind = 0; kind < 8; kind++) {
            System.arraycopy(WIDENS[kind], 0, homes[kind], 0, 8);
            homes[kind][9] = 1;
        }
        homes[4][8] = 1;
        homes[8][10] = 1;
        homes[9][10] = 1;
        homes[9][11] = 1;
        homes[10][9] = 1;
        homes[10][12] = 1;
        for (int type = 8; type <= 12; type++) {
            homes[11][type] = 1;
        }
        for (int kind = 0; kind < 12; kind++) {
            for (int type = 0; type < 13; type++) {
                CoreBook x = new CoreBook();
                x.open(0, type, 2);
                x.hand(kind, 24);
                String what = "kind " + kind + " into type " + type;
                due(what, x.lay(0, 1), homes[kind][type] == 1 ? DONE : UNFIT);
                due(what + " counted", x.met(17, UNFIT), 1 - homes[kind][type]);
                due(what + " counted", x.met(17, DONE), homes[kind][type]);
                due("the hand keeps it", x.inHand(0), kind);
                due(what + " beyond", x.lay(0, 2), BEYOND);
                due(what + " beyond", x.lay(0, -1), BEYOND);
                x.take(0, 1);
                int blank = type < 8 ? type : 11;
                due(what + " then", x.inHand(0), homes[kind][type] == 0 ? blank : type < 8 ? type : kind);
                if (homes[kind][type] == 1 && type < 8) {
                    double number = kind == 0 ? 0 : kind < 6 ? 24 : 3;
                    due(what + " code", x.inHand(1), type == 6 ? bits((float) number)
                        : type == 7 ? bits(number) : (long) number);
                }
                x.take(0, 0);
                due("the other element", x.inHand(0), blank);
            }
        }
        CoreBook x = stocked();
        x.hand(4, 3);
        due("nothing", x.lay(0, -1), NOTHING);
        due("stone", x.lay(1, -1), NO_ROW);
        due("label", x.lay(2, 0), NO_ROW);
        due("empty", x.lay(6, 0), BEYOND);
        for (int cell : FAR) {
            due("beyond", x.lay(5, cell), BEYOND);
        }
        due("unfit", x.lay(5, 0), UNFIT);
        int before = accesses(x);
        for (int c : NO_COLUMNS) {
            due("no column", x.lay(c, 0), UNKNOWN);
        }
        due("nothing counted", accesses(x), before);
        due("counted", x.met(17, NOTHING) * 100 + x.met(17, NO_ROW) * 10 + x.met(17, BEYOND), 125);
    }

    private static void hand() {
        CoreBook x = new CoreBook();
        long v = (5L << 40) + 98305;
        long[] codes = {1, 1, 32769, -32767, 98305, v, bits((float) v / 8), bits((double) v / 8)};
        for (int k = 0; k < 8; k++) {
            due("number", x.hand(k, v), 0);
            due("kind", x.inHand(0), k);
            due("code", x.inHand(1), codes[k]);
            due("no stone", x.inHand(2), 0);
        }
        due("label", x.hand(10, 0), 0);
        due("label", x.hand(10, 99), 0);
        due("label", x.hand(10, 100), WRONG);
        due("label", x.hand(10, -1), WRONG);
        due("label", x.hand(10, 1L << 32), WRONG);
        due("what", x.hand(12, 0), WRONG);
        due("what", x.hand(-1, 0), WRONG);
        due("the hand stays", x.inHand(0), 10);
        due("the hand stays", x.inHand(1), 99);
        due("stone", x.hand(8, (1L << 32) - 3), 0);
        due("weight", x.inHand(1), -3);
        due("gem", x.hand(9, (1L << 32) + 3), 0);
        due("weight", x.inHand(1), 3);
        due("number", x.inHand(2), 2);
        due("nothing", x.hand(11, -55), 0);
        due("nothing", x.inHand(0), 11);
        due("nothing", x.inHand(1), 0);
        due("stones", x.count(4), 2);
        x.open(0, 13, 5);
        for (int i = 4; i <= 60; i++) {
            due("stone", x.hand(i % 2 == 0 ? 8 : 9, i), 0);
            due("number", x.inHand(2), i);
        }
        due("61st", x.hand(8, 1), FULL);
        due("61st", x.hand(9, 1), FULL);
        due("61st", x.open(0, 13, 1), FULL);
        due("the hand stays", x.inHand(2), 60);
        due("stones", x.count(4), 60);
        due("others", x.hand(10, 5), 0);
        due("others", x.hand(4, 5), 0);
        due("wrong first", x.hand(12, 5), WRONG);
    }

    private static void inHand() {
        CoreBook x = new CoreBook();
        due("nothing", x.inHand(0) * 100 + x.inHand(1) * 10 + x.inHand(2), 1100);
        x.hand(8, -9);
        due("stone", x.inHand(0), 8);
        due("weight", x.inHand(1), -9);
        due("number", x.inHand(2), 1);
        x.hand(9, 11);
        due("gem", x.inHand(0), 9);
        due("weight", x.inHand(1), 11);
        due("number", x.inHand(2), 2);
        x.chip(-1);
        due("present weight", x.inHand(1), 10);
        x.hand(10, 31);
        due("label", x.inHand(0), 10);
        due("label", x.inHand(1), 31);
        due("no stone", x.inHand(2), 0);
        x.hand(6, -20);
        due("float", x.inHand(1), bits(-2.5f));
        x.hand(7, -20);
        due("double", x.inHand(1), bits(-2.5));
        x.hand(2, -1);
        due("char", x.inHand(1), 65535);
        for (int what : new int[] {-1, 3, Integer.MIN_VALUE, Integer.MAX_VALUE}) {
            due("what", x.inHand(what), WRONG);
        }
    }

    private static void chip() {
        CoreBook x = new CoreBook();
        due("nothing", x.chip(1), STATE);
        x.hand(4, 5);
        due("number", x.chip(1), STATE);
        x.hand(10, 5);
        due("label", x.chip(1), STATE);
        due("label stays", x.inHand(1), 5);
        x.open(0, 10, 2);
        x.hand(8, 5);
        x.lay(0, 0);
        due("stone", x.chip(3), 8);
        x.hand(9, Integer.MAX_VALUE);
        x.lay(0, 1);
        due("overflow", x.chip(1), Integer.MIN_VALUE);
        due("overflow", x.chip(-2), Integer.MAX_VALUE - 1);
        x.take(0, 0);
        due("the same stone", x.inHand(1), 8);
        due("again", x.chip(-10), -2);
        x.take(0, 1);
        due("the other one", x.inHand(1), Integer.MAX_VALUE - 1);
    }

    // ---- 3 cut, pasted, turned, poured

    private static void cut() {
        CoreBook x = stocked();
        fill(x, 7, 5, 1, 2, 3, 4, 5, 6);
        x.hang(7, 8, 0);
        int before = accesses(x);
        due("cut", x.cut(7, 2, 3), DONE);
        due("nothing counted", accesses(x), before);
        due("clip", x.count(2), 3);
        due("clip's type", x.count(3), 5);
        due("not the same", x.same(7, 8), 0);
        due("type", x.count(17), 5);
        holds(x, "the rest", 7, 1, 2, 6);
        holds(x, "the old one", 8, 1, 2, 3, 4, 5, 6);
        x.write(8, 2, 5, 99);
        x.open(9, 5, 0);
        x.paste(9, 0);
        holds(x, "the clip is new", 9, 3, 4, 5);
        due("from the start", x.cut(7, 0, 1), DONE);
        holds(x, "from the start", 7, 2, 6);
        due("to the end", x.cut(7, 1, 1), DONE);
        holds(x, "to the end", 7, 2);
        for (int from : FAR) {
            due("from", x.cut(7, from, 1), BEYOND);
        }
        due("from", x.cut(7, 1, 1), BEYOND);
        due("n", x.cut(7, 0, 0), BEYOND);
        due("n", x.cut(7, 0, -1), BEYOND);
        due("n", x.cut(7, 0, 2), BEYOND);
        due("n", x.cut(7, 0, Integer.MAX_VALUE), BEYOND);
        due("n", x.cut(7, Integer.MAX_VALUE, Integer.MAX_VALUE), BEYOND);
        due("n", x.cut(7, 0, Integer.MIN_VALUE), BEYOND);
        due("empty", x.cut(6, 0, 1), BEYOND);
        due("nothing", x.cut(0, -1, 0), NOTHING);
        due("stone", x.cut(1, -1, 0), NO_ROW);
        due("label", x.cut(2, 0, 1), NO_ROW);
        for (int c : NO_COLUMNS) {
            due("no column", x.cut(c, 0, 1), UNKNOWN);
        }
        due("the clip stays", x.count(2), 1);
        holds(x, "nothing changed", 7, 2);
        due("all", x.cut(7, 0, 1), DONE);
        due("all", x.length(7), 0);
        x.hand(9, 4);
        x.lay(5, 1);
        due("stones", x.cut(5, 1, 1), DONE);
        due("clip's type", x.count(3), 10);
        x.open(8, 11, 0);
        due("a gem is pasted", x.paste(8, 0), DONE);
        x.take(8, 0);
        due("the same stone", x.inHand(2), 2);
    }

    private static void paste() {
        CoreBook x = stocked();
        due("no clip", x.paste(3, 0), STATE);
        due("no clip", x.paste(0, 99), STATE);
        due("no clip, no column", x.paste(10, 0), UNKNOWN);
        fill(x, 7, 1, 1, -2);
        x.cut(7, 0, 2);
        x.hang(3, 8, 0);
        x.hand(10, 3);
        int before = accesses(x);
        due("in the middle", x.paste(3, 1), DONE);
        due("the hand stays", x.inHand(1), 3);
        due("nothing counted", accesses(x), before);
        due("not the same", x.same(3, 8), 0);
        due("type", x.count(13), 4);
        holds(x, "in the middle", 3, 10, 1, -2, 20, 30);
        holds(x, "the old one", 8, 10, 20, 30);
        due("at the end", x.paste(3, 5), DONE);
        holds(x, "at the end", 3, 10, 1, -2, 20, 30, 1, -2);
        due("at the start", x.paste(8, 0), DONE);
        holds(x, "at the start", 8, 1, -2, 10, 20, 30);
        for (int place : FAR) {
            due("place", x.paste(8, place), BEYOND);
        }
        due("place", x.paste(8, 6), BEYOND);
        due("the clip stays", x.count(2), 2);
        due("nothing", x.paste(0, -1), NOTHING);
        due("stone", x.paste(1, -1), NO_ROW);
        due("label", x.paste(2, 0), NO_ROW);
        for (int c : NO_COLUMNS) {
            due("no column", x.paste(c, 0), UNKNOWN);
        }
        fill(x, 9, 7, 8);
        due("converted", x.paste(9, 1), DONE);
        holds(x, "converted", 9, bits(1.0), bits(1.0), bits(-2.0));
        due("as its own type", x.paste(4, 3), DONE);
        x.take(4, 4);
        due("as its own type", x.inHand(0), 1);
        x.read(3, 0, 4);
        due("unfit", x.paste(5, 2), UNFIT);
        shows(x, "unfit", 0);
        due("beyond first", x.paste(5, 3), BEYOND);
        due("nothing changed", x.length(5), 2);
        x.hand(4, 6);
        x.open(0, 8, 4);
        x.lay(0, 0);
        x.lay(0, 1);
        x.cut(0, 0, 4);
        x.open(9, 5, 21);
        due("too long", x.paste(9, 0), FULL);
        due("too long", x.paste(9, -1), FULL);
        due("length", x.length(9), 21);
        x.open(9, 5, 20);
        due("beyond first", x.paste(9, 21), BEYOND);
        due("unfit", x.paste(9, 20), UNFIT);
        shows(x, "index in the clip", 2);
        x.open(9, 9, 20);
        due("just long enough", x.paste(9, 20), DONE);
        due("length", x.length(9), 24);
        x.take(9, 20);
        due("an int", x.inHand(0), 4);
        due("now full", x.paste(9, 0), FULL);
        due("the clip is too long for a stone", x.paste(1, 0), NO_ROW);
    }

    private static void turn() {
        CoreBook x = stocked();
        fill(x, 7, 1, 5, -6);
        x.hang(7, 8, 0);
        x.hand(10, 3);
        int before = accesses(x);
        due("its own type", x.turn(7, 1), DONE);
        due("a new array", x.same(7, 8), 0);
        x.write(7, 0, 1, 7);
        due("wider", x.turn(7, 3), DONE);
        due("type", x.count(17), 3);
        due("wider", x.turn(7, 6), DONE);
        due("narrower", x.turn(7, 5), UNFIT);
        shows(x, "narrower", 0);
        due("type", x.count(17), 6);
        due("the hand stays", x.inHand(1), 3);
        due("nothing counted but a write", accesses(x), before + 1);
        holds(x, "floats", 7, bits(7f), bits(-6f));
        holds(x, "the old one", 8, 5, -6);
        due("to things", x.turn(8, 9), DONE);
        x.take(8, 1);
        due("own type", x.inHand(0), 1);
        x.hand(4, 70000);
        x.lay(8, 1);
        due("mixed", x.turn(8, 3), UNFIT);
        shows(x, "mixed", 1);
        due("mixed", x.turn(8, 8), UNFIT);
        shows(x, "mixed", 0);
        due("mixed", x.turn(8, 4), DONE);
        holds(x, "mixed", 8, 5, 70000);
        due("boxed", x.turn(8, 8), DONE);
        due("type", x.count(18), 8);
        due("unboxed", x.turn(8, 5), DONE);
        holds(x, "longs", 8, 5, 70000);
        due("all nothing", x.turn(4, 11), DONE);
        due("all nothing", x.turn(4, 0), UNFIT);
        due("empty", x.turn(6, 12), DONE);
        due("empty", x.turn(6, 0), DONE);
        due("empty", x.count(16), 0);
        due("kind", x.turn(3, 13), WRONG);
        due("kind", x.turn(0, -1), WRONG);
        due("nothing", x.turn(0, 4), NOTHING);
        due("stone", x.turn(1, 4), NO_ROW);
        due("label", x.turn(2, 12), NO_ROW);
        for (int c : NO_COLUMNS) {
            due("no column", x.turn(c, 13), UNKNOWN);
        }
        holds(x, "nothing changed", 3, 10, 20, 30);
    }

    private static void fits() {
        int[] sets = {0x201, 0x2FA, 0x2F4, 0x2F8, 0x3F0, 0x2E0, 0x2C0, 0x280, 0x1F00, 0x1F00, 0x1F00, 0x1F00, 0x1F00};
        CoreBook x = stocked();
        for (int type = 0; type < 13; type++) {
            x.open(7, type, 2);
            due("type " + type, x.fits(7), sets[type]);
            x.open(7, type, 0);
            due("empty", x.fits(7), 0x1FFF);
        }
        int before = accesses(x);
        x.hand(9, 1);
        x.lay(5, 0);
        due("gem", x.fits(5), 0xC00);
        x.hand(8, 1);
        x.lay(5, 1);
        due("gem and stone", x.fits(5), 0x400);
        x.hand(1, 1);
        x.lay(4, 0);
        due("byte and nothing", x.fits(4), 0x200);
        x.lay(4, 1);
        x.lay(4, 2);
        due("bytes", x.fits(4), 0x2FA);
        x.hand(2, 1);
        x.lay(4, 1);
        due("bytes and a char", x.fits(4), 0x2F0);
        x.hand(10, 1);
        x.lay(4, 1);
        due("bytes and a label", x.fits(4), 0x200);
        due("the display stays", x.glass(), 0);
        due("only lays are counted", accesses(x), before + 7);
        due("nothing", x.fits(0), 0);
        due("stone", x.fits(1), 0);
        due("label", x.fits(2), 0);
        for (int c : NO_COLUMNS) {
            due("no column", x.fits(c), UNKNOWN);
        }
    }

    private static void pour() {
        CoreBook x = stocked();
        fill(x, 7, 5, 1, 2, 3, 4, 5);
        due("ints into longs", x.pour(3, 0, 7, 1, 4), 3);
        due("the source ended", x.count(0), BEYOND);
        holds(x, "longs", 7, 1, 10, 20, 30, 5);
        shows(x, "the last read", 30);
        due("read as ints", x.met(4, DONE), 3);
        due("read as ints", x.met(4, BEYOND), 1);
        due("written as ints", x.met(13, DONE), 3 + 3);
        due("written as ints", x.met(13, BEYOND), 0);
        due("the target ends", x.pour(3, 0, 7, 3, 5), 2);
        due("the target ended", x.count(0), BEYOND);
        shows(x, "the third was read", 30);
        due("read as longs", x.met(5, DONE), 3);
        due("written as longs", x.met(14, BEYOND), 1);
        holds(x, "longs", 7, 1, 10, 20, 10, 20);
        due("overlapping", x.pour(7, 0, 7, 1, 5), 4);
        holds(x, "overlapping", 7, 1, 1, 1, 1, 1);
        due("unfit to read", x.pour(7, 0, 3, 0, 4), 0);
        due("unfit", x.count(0), UNFIT);
        due("unfit to read", x.met(4, UNFIT), 1);
        due("unfit to write", x.pour(7, 0, 3, 0, 5), 0);
        due("unfit", x.count(0), UNFIT);
        due("unfit to write", x.met(14, UNFIT), 1);
        shows(x, "but read", 1);
        due("things", x.pour(4, 0, 3, 0, 4), 0);
        due("things", x.count(0), THINGS);
        due("into things", x.pour(3, 0, 4, 0, 4), 0);
        due("into things", x.met(13, THINGS), 1);
        due("take and lay", x.pour(3, 0, 4, 1, 8), 2);
        due("take and lay", x.count(0), BEYOND);
        due("the hand holds the third", x.inHand(1), 30);
        x.take(4, 1);
        due("laid", x.inHand(1), 10);
        x.take(4, 0);
        due("not laid", x.inHand(0), 11);
        due("nothing into ints", x.pour(4, 0, 3, 0, 8), 0);
        due("nothing into ints", x.count(0), UNFIT);
        due("nothing", x.pour(0, 0, 3, 0, 8), 0);
        due("nothing", x.count(0), NOTHING);
        due("into nothing", x.pour(3, 1, 0, 0, 8), 0);
        due("into nothing", x.count(0), NOTHING);
        due("but taken", x.inHand(1), 20);
        due("stone", x.pour(1, 0, 3, 0, 0), 0);
        due("stone", x.count(0), NO_ROW);
        for (int far : FAR) {
            due("from far", x.pour(3, far, 3, 0, 4), 0);
            due("to far", x.pour(3, 0, 3, far, 4), 0);
            due("from far", x.pour(3, far, 3, far, 8), 0);
        }
        x.sum(1, 4);
        int before = accesses(x);
        for (int c : NO_COLUMNS) {
            due("no column", x.pour(c, 0, 3, 0, 9), UNKNOWN);
            due("no column", x.pour(3, 0, c, 0, 9), UNKNOWN);
        }
        due("k", x.pour(0, 0, 3, 0, 9), WRONG);
        due("k", x.pour(3, 0, 3, 0, -1), WRONG);
        due("nothing counted", accesses(x), before);
        due("the answer stays", x.count(0), NO_ROW);
        x.open(8, 2, 24);
        x.open(9, 7, 24);
        due("all", x.pour(8, 0, 9, 0, 6), 24);
        due("all", x.pour(8, 0, 8, 0, 8), 24);
        due("all", x.count(0), BEYOND);
    }

    private static void sum() {
        CoreBook x = stocked();
        due("ints", x.sum(3, 4), 0);
        shows(x, "ints", 60);
        due("kept", x.count(0), BEYOND);
        due("counted", x.met(4, DONE), 3);
        due("counted", x.met(4, BEYOND), 1);
        due("as doubles", x.sum(3, 7), 0);
        shows(x, "as doubles", bits(60.0));
        fill(x, 7, 1, 127, 127, 127);
        due("bytes", x.sum(7, 1), 0);
        shows(x, "no overflow of a byte", 381);
        fill(x, 7, 4, Integer.MAX_VALUE, 1);
        due("ints", x.sum(7, 4), 0);
        shows(x, "no overflow of an int", 1L << 31);
        fill(x, 7, 5, Long.MAX_VALUE, 1);
        due("longs", x.sum(7, 5), 0);
        shows(x, "overflow of a long", Long.MIN_VALUE);
        fill(x, 7, 4, 1 << 24, 1, 1, 1);
        due("as floats", x.sum(7, 6), 0);
        shows(x, "each sum is rounded", bits((float) (1 << 24)));
        due("as doubles", x.sum(7, 7), 0);
        shows(x, "as doubles", bits((double) (1 << 24) + 3));
        fill(x, 7, 6, -3, 1);
        due("floats", x.sum(7, 6), 0);
        shows(x, "floats", bits(-0.25f));
        fill(x, 7, 7, -8, 8);
        due("doubles", x.sum(7, 7), 0);
        shows(x, "no negative zero", 0);
        fill(x, 7, 5, Long.MAX_VALUE, Long.MAX_VALUE, Long.MAX_VALUE);
        due("as floats", x.sum(7, 6), 0);
        shows(x, "as floats", bits(3f * (1L << 62) * 2));
        x.open(7, 7, 0);
        due("empty, though unfit", x.sum(7, 1), 0);
        shows(x, "empty", 0);
        x.read(3, 0, 4);
        x.open(7, 7, 2);
        due("unfit", x.sum(7, 5), MISS - UNFIT);
        due("kept", x.count(0), UNFIT);
        due("nothing", x.sum(0, 5), MISS - NOTHING);
        due("kept", x.count(0), NOTHING);
        due("stone", x.sum(1, 5), MISS - NO_ROW);
        due("label", x.sum(2, 5), MISS - NO_ROW);
        due("things", x.sum(4, 5), MISS - THINGS);
        shows(x, "the display stays", 10);
        int before = accesses(x);
        for (int c : NO_COLUMNS) {
            due("no column", x.sum(c, 0), UNKNOWN);
        }
        due("k", x.sum(3, 0), WRONG);
        due("k", x.sum(0, 8), WRONG);
        due("k", x.sum(3, -1), WRONG);
        due("nothing counted", accesses(x), before);
        due("the answer stays", x.count(0), THINGS);
        x.open(7, 0, 1);
        due("booleans", x.sum(7, 4), MISS - UNFIT);
    }

    // ---- 4 searched, met, gathered

    private static void pairsAre(CoreBook x, String what, int... indices) {
        due(what + ": pairs", x.count(1), indices.length / 2);
        for (int i = 0; i < indices.length / 2; i++) {
            due(what + ": first of " + i, x.pair(i, 0), indices[2 * i]);
            due(what + ": second of " + i, x.pair(i, 1), indices[2 * i + 1]);
        }
        due(what + ": no more", x.pair(indices.length / 2, 0), NONE);
    }

    private static void where() {
        CoreBook x = stocked();
        fill(x, 7, 1, 5, -3, 5, 9);
        due("less", x.where(7, 1, 0, 5), 1);
        pairsAre(x, "less", 1, 1);
        due("equal", x.where(7, 3, 1, 5), 2);
        pairsAre(x, "equal", 0, 0, 2, 2);
        due("greater", x.where(7, 5, 2, -3), 3);
        pairsAre(x, "greater", 0, 0, 2, 2, 3, 3);
        shows(x, "the last read", 9);
        due("kept", x.count(0), BEYOND);
        due("counted", x.met(1, DONE) * 10 + x.met(1, BEYOND), 41);
        due("asked as a long", x.where(7, 1, 1, 256 + 5), 0);
        due("asked as a long", x.where(7, 1, 0, 1L << 40), 4);
        due("an eighth each", x.where(7, 6, 1, 40), 2);
        due("an eighth each", x.where(7, 7, 0, 39), 1);
        fill(x, 8, 5, (1L << 24) + 1, 1L << 24);
        due("as floats", x.where(8, 6, 1, 1L << 27), 2);
        due("as doubles", x.where(8, 7, 1, 1L << 27), 1);
        pairsAre(x, "as doubles", 1, 1);
        due("as longs", x.where(8, 5, 2, 1L << 24), 1);
        pairsAre(x, "as longs", 0, 0);
        fill(x, 8, 0, 1, 0, 1);
        due("booleans", x.where(8, 0, 1, 1), 2);
        due("booleans", x.where(8, 0, 1, 3), 0);
        due("booleans", x.where(8, 0, 2, 0), 2);
        fill(x, 8, 7, Long.MIN_VALUE, Long.MAX_VALUE, 0);
        due("doubles", x.where(8, 7, 0, 0), 1);
        pairsAre(x, "doubles", 0, 0);
        due("unfit", x.where(8, 6, 0, 0), MISS - UNFIT);
        due("kept", x.count(0), UNFIT);
        due("nothing", x.where(0, 6, 0, 0), MISS - NOTHING);
        due("stone", x.where(1, 6, 0, 0), MISS - NO_ROW);
        due("things", x.where(4, 6, 0, 0), MISS - THINGS);
        pairsAre(x, "the pairs stay", 0, 0);
        int before = accesses(x);
        for (int c : NO_COLUMNS) {
            due("no column", x.where(c, 8, 3, 0), UNKNOWN);
        }
        due("k", x.where(7, 8, 0, 0), WRONG);
        due("k", x.where(0, -1, 0, 0), WRONG);
        due("how", x.where(7, 1, 3, 0), WRONG);
        due("how", x.where(0, 1, -1, 0), WRONG);
        due("nothing counted", accesses(x), before);
        due("the answer stays", x.count(0), THINGS);
        pairsAre(x, "the pairs stay", 0, 0);
        due("empty, though unfit", x.where(6, 0, 1, 0), 0);
        pairsAre(x, "empty");
        x.open(8, 3, 24);
        due("all", x.where(8, 3, 1, 0), 24);
        due("the last pair", x.pair(23, 1), 23);
    }

    private static void meet() {
        CoreBook x = stocked();
        fill(x, 7, 1, 1, 2, 1);
        fill(x, 8, 5, 1, 3, 1, 2);
        due("joined", x.meet(7, 8, 5), 5);
        pairsAre(x, "joined", 0, 0, 0, 2, 1, 3, 2, 0, 2, 2);
        shows(x, "the last read", 2);
        due("counted", x.met(5, DONE) * 10 + x.met(5, BEYOND), 72);
        due("kept", x.count(0), BEYOND);
        due("the other way", x.meet(8, 7, 6), 5);
        pairsAre(x, "the other way", 0, 0, 0, 2, 2, 0, 2, 2, 3, 1);
        due("with itself", x.meet(7, 7, 1), 5);
        pairsAre(x, "with itself", 0, 0, 0, 2, 1, 1, 2, 0, 2, 2);
        due("the second is unfit", x.meet(7, 8, 3), MISS - UNFIT);
        due("kept", x.count(0), UNFIT);
        shows(x, "the first was read", 1);
        due("counted", x.met(3, DONE) * 100 + x.met(3, BEYOND) * 10 + x.met(3, UNFIT), 311);
        due("the first is unfit", x.meet(8, 7, 4), MISS - UNFIT);
        due("the second was not read", x.met(4, DONE), 0);
        due("the first is nothing", x.meet(0, 1, 5), MISS - NOTHING);
        due("the second is no array", x.meet(7, 1, 5), MISS - NO_ROW);
        due("the second is things", x.meet(7, 4, 5), MISS - THINGS);
        pairsAre(x, "the pairs stay", 0, 0, 0, 2, 1, 1, 2, 0, 2, 2);
        int before = accesses(x);
        for (int c : NO_COLUMNS) {
            due("no column", x.meet(c, 7, 8), UNKNOWN);
            due("no column", x.meet(7, c, 8), UNKNOWN);
        }
        due("k", x.meet(0, 0, 8), WRONG);
        due("k", x.meet(7, 7, -1), WRONG);
        due("nothing counted", accesses(x), before);
        due("the answer stays", x.count(0), THINGS);
        x.open(3, 4, 5);
        x.write(3, 4, 4, 6);
        due("too many", x.open(9, 2, 7), DONE);
        before = x.met(4, DONE);
        due("too many", x.meet(3, 9, 4), FULL);
        pairsAre(x, "the pairs stay", 0, 0, 0, 2, 1, 1, 2, 0, 2, 2);
        due("too many, but counted", x.met(4, DONE), before + 12);
        due("kept", x.count(0), BEYOND);
        shows(x, "the last read", 0);
        x.open(9, 2, 5);
        x.open(3, 4, 5);
        due("one too many", x.meet(3, 9, 4), FULL);
        x.write(3, 4, 4, 6);
        x.open(9, 2, 6);
        due("just enough", x.meet(3, 9, 4), 24);
        due("the last", x.pair(23, 0) * 10 + x.pair(23, 1), 35);
        due("the second is empty", x.meet(3, 6, 4), 0);
        shows(x, "the last of the first", 6);
        pairsAre(x, "none");
        fill(x, 7, 5, (1L << 24) + 1);
        fill(x, 8, 5, 1L << 24);
        due("as longs", x.meet(7, 8, 5), 0);
        due("as floats", x.meet(7, 8, 6), 1);
        due("as doubles", x.meet(7, 8, 7), 0);
    }

    private static void pair() {
        CoreBook x = new CoreBook();
        due("none", x.pair(0, 0), NONE);
        due("what before none", x.pair(0, 2), WRONG);
        fill(x, 0, 4, 7, 8);
        fill(x, 1, 4, 0, 0, 8);
        due("meet", x.meet(0, 1, 4), 1);
        due("first", x.pair(0, 0), 1);
        due("second", x.pair(0, 1), 2);
        due("what", x.pair(0, 2), WRONG);
        due("what", x.pair(0, -1), WRONG);
        due("what", x.pair(-1, Integer.MAX_VALUE), WRONG);
        due("none", x.pair(1, 0), NONE);
        for (int i : FAR) {
            due("none", x.pair(i, 0), NONE);
            due("none", x.pair(i, 1), NONE);
        }
    }

    private static void gather() {
        CoreBook x = stocked();
        fill(x, 7, 1, 1, 2, 1);
        fill(x, 8, 5, 1, 3, 1, 2);
        x.meet(7, 8, 5);
        int before = accesses(x);
        due("first", x.gather(7, 0, 9), DONE);
        due("nothing counted", accesses(x), before);
        due("type", x.count(19), 1);
        holds(x, "first", 9, 1, 1, 2, 1, 1);
        due("second", x.gather(8, 1, 9), DONE);
        due("type", x.count(19), 5);
        holds(x, "second", 9, 1, 1, 2, 1, 1);
        due("another array", x.gather(3, 0, 9), DONE);
        holds(x, "another array", 9, 10, 10, 20, 30, 30);
        due("beyond", x.gather(3, 1, 9), BEYOND);
        due("beyond", x.gather(6, 0, 9), BEYOND);
        holds(x, "nothing changed", 9, 10, 10, 20, 30, 30);
        due("nothing", x.gather(0, 0, 9), NOTHING);
        due("stone", x.gather(1, 0, 9), NO_ROW);
        due("label", x.gather(2, 1, 9), NO_ROW);
        for (int c : NO_COLUMNS) {
            due("no column", x.gather(c, 2, 9), UNKNOWN);
            due("no column", x.gather(3, 2, c), UNKNOWN);
        }
        due("side", x.gather(0, 2, 9), WRONG);
        due("side", x.gather(3, -1, 9), WRONG);
        holds(x, "nothing changed", 9, 10, 10, 20, 30, 30);
        x.hang(8, 0, 0);
        due("onto itself", x.gather(8, 0, 8), DONE);
        holds(x, "onto itself", 8, 1, 1, 3, 1, 1);
        holds(x, "the old one", 0, 1, 3, 1, 2);
        due("no pairs", x.where(0, 5, 0, -9), 0);
        due("no pairs", x.gather(5, 1, 9), DONE);
        due("no pairs", x.length(9), 0);
        due("type", x.count(19), 10);
        x.hand(8, 4);
        x.lay(5, 1);
        fill(x, 7, 0, 0, 1);
        x.where(7, 0, 1, 1);
        due("stones", x.gather(5, 0, 9), DONE);
        x.take(9, 0);
        due("the same stone", x.inHand(2), 2);
    }

    // ---- 5 images, counts

    private static void image() {
        CoreBook x = stocked();
        x.hang(3, 7, 0);
        due("image", x.image(0), 1);
        due("k", x.image(2), WRONG);
        due("k", x.image(-1), WRONG);
        due("the other one is not saved", x.restore(1), STATE);
        x.write(3, 0, 4, 11);
        due("image", x.image(1), 1);
        x.write(3, 0, 4, 12);
        due("restore", x.restore(0), 1);
        holds(x, "the elements that were", 7, 10, 20, 30);
        due("restore", x.restore(1), 1);
        holds(x, "the elements that were", 7, 11, 20, 30);
        x.write(3, 0, 4, 13);
        due("again", x.image(0), 1);
        x.open(3, 15, 0);
        due("restore", x.restore(0), 1);
        holds(x, "in place of the old image", 3, 13, 20, 30);
    }

    private static void restore() {
        CoreBook x = stocked();
        x.hang(3, 7, 0);
        x.hang(1, 8, 0);
        x.hang(3, 9, 1);
        x.hand(9, 5);
        x.lay(5, 1);
        due("k", x.restore(2), WRONG);
        due("k", x.restore(-1), WRONG);
        due("not saved", x.restore(0), STATE);
        x.image(0);
        for (int round = 0; round < 2; round++) {
            for (int c = 0; c < 10; c++) {
                x.open(c, 14, c);
            }
            x.hand(10, 3);
            due("restore", x.restore(0), 1);
            due("the hand stays", x.inHand(1), 3);
            int[] contents = {15, 13, 14, 4, 9, 10, 4, 4, 13, 4};
            for (int c = 0; c < 10; c++) {
                due("column " + c, x.count(10 + c), contents[c]);
            }
            due("shared", x.same(3, 7), 1);
            due("not shared", x.same(3, 9), 0);
            holds(x, "elements", 3, 10, 20, 30);
            x.write(7, 2, 4, 31);
            holds(x, "shared", 3, 10, 20, 31);
            holds(x, "not shared", 9, 10, 20, 30);
            x.take(5, 1);
            due("the same stone", x.inHand(2), 2);
            due("weights are not saved", x.chip(1), 6 + round);
        }
        x.hang(3, 0, 0);
        due("restore", x.restore(0), 1);
        due("nothing", x.count(10), 15);
        x.read(3, 2, 4);
        shows(x, "the image stays", 30);
        x.hang(3, 0, 0);
        x.image(1);
        x.write(0, 0, 4, 55);
        due("restore", x.restore(1), 1);
        holds(x, "the first column", 0, 10, 20, 30);
        due("shared with the first column", x.same(0, 7) * 10 + x.same(3, 7), 11);
        x.read(3, 2, 4);
        x.cut(3, 0, 1);
        x.where(9, 4, 2, 0);
        x.sum(1, 4);
        int before = accesses(x);
        long hand = x.inHand(1);
        due("restore", x.restore(0), 1);
        shows(x, "the display stays", 30);
        due("the clip stays", x.count(2), 1);
        due("the pairs stay", x.count(1), 3);
        due("the answer stays", x.count(0), NO_ROW);
        due("what is counted stays", accesses(x), before);
        due("the hand stays", x.inHand(1), hand);
        due("the stones stay", x.count(4), 2);
    }

    private static void met() {
        CoreBook x = stocked();
        int before = accesses(x);
        due("filled", before, x.met(13, DONE));
        x.read(0, 0, 3);
        x.read(0, 0, 3);
        x.read(1, 0, 7);
        x.write(4, 0, 7, 1);
        x.take(3, 5);
        x.lay(3, 0);
        x.length(3);
        due("read", x.met(3, NOTHING), 2);
        due("read", x.met(7, NO_ROW), 1);
        due("write", x.met(16, THINGS), 1);
        due("take", x.met(8, BEYOND), 1);
        due("lay", x.met(17, UNFIT), 1);
        due("length", x.met(18, DONE), 1);
        due("all", accesses(x), before + 7);
        x.hang(3, 7, 1);
        x.same(3, 7);
        x.cut(7, 0, 1);
        x.paste(7, 0);
        x.paste(5, 0);
        x.turn(7, 5);
        x.turn(7, 0);
        x.fits(7);
        x.gather(7, 0, 8);
        x.gather(0, 0, 8);
        x.image(0);
        x.restore(0);
        due("others are not counted", accesses(x), before + 7);
        for (int far : FAR) {
            due("asker", x.met(far, 0), WRONG);
            due("answer", x.met(0, far), WRONG);
        }
        due("asker", x.met(19, 0), WRONG);
        due("answer", x.met(18, 6), WRONG);
        due("the last", x.met(18, 5), 0);
    }

    private static void count() {
        CoreBook x = new CoreBook();
        due("kept", x.count(0), NONE);
        x.sum(0, 1);
        due("sum", x.count(0), NOTHING);
        x.open(1, 4, 2);
        x.where(1, 4, 1, 0);
        due("where", x.count(0), BEYOND);
        due("pairs", x.count(1), 2);
        x.open(2, 14, 2);
        x.meet(1, 2, 4);
        due("meet", x.count(0), NO_ROW);
        x.pour(1, 0, 1, 0, 3);
        due("pour", x.count(0), UNFIT);
        x.read(1, 0, 4);
        due("others keep none", x.count(0), UNFIT);
        due("no clip", x.count(2), NONE);
        due("no clip", x.count(3), NONE);
        x.cut(1, 1, 1);
        due("clip", x.count(2), 1);
        due("clip", x.count(3), 4);
        due("stones", x.count(4), 0);
        x.open(3, 13, 1);
        x.hand(8, 1);
        x.hand(9, 1);
        due("stones", x.count(4), 3);
        // sum: 1/NOTHING; where: 4/DONE, 4/BEYOND; meet: 4/NO_ROW too; pour: 3/UNFIT
        due("kinds counted", x.count(5), 5);
        x.read(1, 0, 4);
        due("kinds counted", x.count(5), 5);
        x.read(1, 0, 5);
        due("kinds counted", x.count(5), 6);
        x.open(9, 0, 1);
        x.read(9, 0, 0);
        due("the first kind", x.count(5), 7);
        x.open(9, 0, 0);
        x.lay(9, 0);
        x.length(9);
        due("the last kinds", x.count(5), 9);
        x.open(9, 15, 0);
        int[] contents = {15, 4, 14, 13, 15, 15, 15, 15, 15, 15};
        for (int c = 0; c < 10; c++) {
            due("column " + c, x.count(10 + c), contents[c]);
        }
        for (int type = 0; type <= 12; type++) {
            x.open(9, type, 3);
            due("type", x.count(19), type);
        }
        for (int what : new int[] {-1, 6, 7, 8, 9, 20, Integer.MIN_VALUE, Integer.MAX_VALUE}) {
            due("what", x.count(what), WRONG);
        }
    }
}

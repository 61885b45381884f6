import java.io.IOException;
import java.lang.annotation.Retention;
import java.lang.annotation.RetentionPolicy;
import java.lang.reflect.InvocationTargetException;
import java.lang.reflect.Method;
import java.nio.file.Files;
import java.nio.file.Path;
import java.util.Arrays;
import java.util.Comparator;

/**
 * A test of its own for each sentence of the document that names a boundary case. The remark
 * {@code @Sentence} over a test says in which part of DOC.md the sentence stands and how it goes;
 * that it does stand there is tested, too. The tests follow the order of the document.
 */
public final class SentenceTest {
    private static final int UNKNOWN = -1, WRONG = -2, STATE = -3, FULL = -4, NONE = -6, MISS = -10;
    private static final int DONE = 0, NOTHING = 1, NO_ROW = 2, THINGS = 3, BEYOND = 4, UNFIT = 5;
    private static final int LOW = Integer.MIN_VALUE, HIGH = Integer.MAX_VALUE;
    private static final int[] NO_COLUMNS = {-1, 10, LOW, HIGH};
    private static final int[] NO_NUMBER_TYPES = {-1, 8, LOW, HIGH};
    private static final int READ_INT = 4, TAKE = 8, WRITE = 9, WRITE_INT = 13, LAY = 17, LENGTH = 18;

    /** What stands in each column of full(). */
    private static final int EMPTY = 0, STONE = 1, LABEL = 2, INTS = 3, ANY = 4, STONES = 5, NO_INTS = 6,
        TWIN = 7, BYTES = 8, CHARS = 9;

    /** By the document's list: the types that each type widens to. */
    private static final String[] WIDENS_TO = {"0", "134567", "24567", "34567", "4567", "567", "67", "7"};

    private static String running = "";
    private static String quoted = "";
    private static int asked = 0;
    private static int wrong = 0;

    /** Which sentence a test is for. */
    @Retention(RetentionPolicy.RUNTIME)
    private @interface Sentence {
        /** "What it is", "Description" or "Promise n". */
        String in();

        String says();
    }

    private interface Call {
        long on(CoreBook x);
    }

    private interface ColumnCall {
        long on(CoreBook x, int column);
    }

    private interface Book {
        CoreBook make();
    }

    public static void main(String[] args) throws IOException {
        Method[] tests = Arrays.stream(SentenceTest.class.getDeclaredMethods())
            .filter(m -> m.isAnnotationPresent(Sentence.class))
            .filter(m -> args.length == 0 || m.getName().equals(args[0]))
            .sorted(Comparator.comparing(Method::getName))
            .toArray(Method[]::new);
        Path document = Path.of("../shared/DOC.md");
        String text = Files.isReadable(document) ? Files.readString(document) : null;
        for (Method test : tests) {
            run(test, text);
        }
        if (text == null) {
            System.out.println("the quotes were not looked up: there is no " + document);
        }
        System.out.println(tests.length + " sentences, " + wrong + " answers that are not as due");
        if (wrong != 0 || tests.length == 0) {
            System.exit(1);
        }
    }

    private static void run(Method test, String text) {
        Sentence sentence = test.getAnnotation(Sentence.class);
        running = test.getName();
        quoted = sentence.in() + ", \"" + sentence.says() + "\"";
        asked = 0;
        if (text != null && !section(text, sentence.in()).contains(spaced(sentence.says()))) {
            complain("the document does not say so");
        }
        try {
            test.invoke(null);
        } catch (InvocationTargetException e) {
            complain("it threw " + e.getCause());
        } catch (IllegalAccessException e) {
            complain("it could not be run");
        }
        if (asked == 0) {
            complain("it asks nothing");
        }
    }

    /** The text under a heading of the document. */
    private static String section(String text, String heading) {
        int start = text.indexOf("\n## " + heading + (heading.startsWith("Promise") ? ":" : "\n"));
        if (start < 0) {
            return "";
        }
        int end = text.indexOf("\n## ", start + 1);
        return spaced(end < 0 ? text.substring(start) : text.substring(start, end));
    }

    private static String spaced(String text) {
        return text.replaceAll("\\s+", " ");
    }

    // ---- what the tests are written with

    private static void complain(String what) {
        wrong++;
        System.out.println(running + " (" + quoted + "): " + what);
    }

    private static void due(String what, long got, long want) {
        asked++;
        if (got != want) {
            complain(what + " answered " + got + ", due is " + want);
        }
    }

    private static void alike(String what, String got, String want) {
        asked++;
        if (!got.equals(want)) {
            complain(what + "\n    left  " + got + "\n    due is " + want);
        }
    }

    private static long bits(float x) {
        return Float.floatToIntBits(x);
    }

    private static long bits(double x) {
        return Double.doubleToLongBits(x);
    }

    private static boolean widens(int from, int to) {
        return WIDENS_TO[from].indexOf('0' + to) >= 0;
    }

    /** Opens an array of a number type and writes the numbers made from these values. */
    private static void fill(CoreBook x, int column, int type, long... values) {
        x.open(column, type, values.length);
        for (int i = 0; i < values.length; i++) {
            x.write(column, i, type, values[i]);
        }
    }

    /** Puts something into the hand, and lays it into an element. */
    private static int put(CoreBook x, int column, int cell, int what, long v) {
        x.hand(what, v);
        return x.lay(column, cell);
    }

    /** The kinds, codes and stone numbers of a column's elements; taking them changes the hand. */
    private static String row(CoreBook x, int column) {
        int n = x.length(column);
        StringBuilder row = new StringBuilder().append(x.count(10 + column)).append('[').append(n);
        for (int i = 0; i < n; i++) {
            x.take(column, i);
            row.append(' ').append(x.inHand(0)).append(':').append(x.inHand(1)).append('#').append(x.inHand(2));
        }
        return row.append(']').toString();
    }

    /** What row() says of an array of a number type with these codes. */
    private static String numbers(int type, long... codes) {
        StringBuilder row = new StringBuilder().append(type).append('[').append(codes.length);
        for (long code : codes) {
            row.append(' ').append(type).append(':').append(code).append("#0");
        }
        return row.append(']').toString();
    }

    private static String rows(CoreBook x) {
        StringBuilder rows = new StringBuilder();
        for (int c = 0; c < 10; c++) {
            rows.append(row(x, c)).append(' ');
            for (int d = 0; d < c; d++) {
                rows.append(x.same(c, d));
            }
        }
        return rows.toString();
    }

    private static String counted(CoreBook x) {
        StringBuilder counted = new StringBuilder("counted " + x.count(5) + ":");
        for (int asker = 0; asker < 19; asker++) {
            for (int answer = 0; answer < 6; answer++) {
                int n = x.met(asker, answer);
                counted.append(n == 0 ? "" : " " + asker + "/" + answer + "*" + n);
            }
        }
        return counted.toString();
    }

    private static int allCounted(CoreBook x) {
        int n = 0;
        for (int asker = 0; asker < 19; asker++) {
            for (int answer = 0; answer < 6; answer++) {
                n += x.met(asker, answer);
            }
        }
        return n;
    }

    private static String pairs(CoreBook x) {
        StringBuilder pairs = new StringBuilder().append(x.count(1));
        for (int i = 0; x.pair(i, 0) != NONE && i < 30; i++) {
            pairs.append(' ').append(x.pair(i, 0)).append('-').append(x.pair(i, 1));
        }
        return pairs.toString();
    }

    private static String clip(CoreBook x) {
        if (x.count(3) == NONE) {
            return "no clip";
        }
        x.open(0, x.count(3), 0);
        x.paste(0, 0);
        return row(x, 0);
    }

    private static String image(CoreBook x, int k) {
        return x.restore(k) == 1 ? rows(x) : "no image";
    }

    private static CoreBook after(Book book, Call call) {
        CoreBook x = book.make();
        call.on(x);
        return x;
    }

    /**
     * All that can be seen of a notebook after a call, but for what is counted. Each part is seen
     * on a notebook of its own, since looking changes it, and has at most 512 calls.
     */
    private static String seen(Book book, Call call) {
        CoreBook x = after(book, call);
        return "display " + x.glass() + " hand " + x.inHand(0) + ":" + x.inHand(1) + "#" + x.inHand(2)
            + " kept " + x.count(0) + " pairs " + pairs(x) + " stones " + x.count(4)
            + "\n columns " + rows(x)
            + "\n clip " + clip(after(book, call))
            + "\n image 0 " + image(after(book, call), 0)
            + "\n image 1 " + image(after(book, call), 1);
    }

    /** The call answers this, and changes nothing and counts nothing. */
    private static void idle(String what, Book book, Call call, long want) {
        due(what, call.on(book.make()), want);
        alike(what + " changes nothing", seen(book, call), seen(book, x -> 0));
        alike(what + " counts nothing", counted(after(book, call)), counted(book.make()));
    }

    private static void idle(String what, Call call, long want) {
        idle(what, SentenceTest::full, call, want);
    }

    /** The call answers this, changes nothing, and this one access with this answer is counted. */
    private static void missed(String what, Book book, Call call, long want, int access, int answer) {
        due(what, call.on(book.make()), want);
        alike(what + " changes nothing", seen(book, call), seen(book, x -> 0));
        CoreBook x = after(book, call);
        CoreBook before = book.make();
        due(what + " is counted", x.met(access, answer), before.met(access, answer) + 1);
        due(what + " is counted once", allCounted(x), allCounted(before) + 1);
    }

    private static void missed(String what, Call call, int access, int answer) {
        missed(what, SentenceTest::full, call, answer, access, answer);
    }

    private static void noSuchColumn(ColumnCall call) {
        for (int c : NO_COLUMNS) {
            idle("column " + c, x -> call.on(x, c), UNKNOWN);
        }
        for (int c = 0; c < 10; c++) {
            due("column " + c + " is unknown", call.on(full(), c) == UNKNOWN ? 1 : 0, 0);
        }
    }

    /** A notebook in which everything is: each kind of column, a hand, display, clip, pairs, images. */
    private static CoreBook full() {
        CoreBook x = new CoreBook();
        x.open(STONE, 13, 7);
        x.open(LABEL, 14, 42);
        fill(x, INTS, 4, 10, 20, 30);
        x.hang(INTS, TWIN, 0);
        x.open(ANY, 9, 3);
        put(x, ANY, 0, 4, 5);
        put(x, ANY, 1, 10, 3);
        x.open(STONES, 10, 2);
        put(x, STONES, 0, 8, 40);
        put(x, STONES, 1, 9, 50);
        x.open(NO_INTS, 4, 0);
        fill(x, BYTES, 1, 1, 2, 1);
        fill(x, CHARS, 2, 65535);
        x.image(0);
        x.open(EMPTY, 4, 3);
        x.write(EMPTY, 1, 4, 77);
        x.image(1);
        x.cut(EMPTY, 1, 2);
        x.open(EMPTY, 15, 0);
        x.meet(INTS, TWIN, 4);
        x.read(INTS, 1, 4);
        return x;
    }

    /** full(), but 60 stones have been made. */
    private static CoreBook outOfStones() {
        CoreBook x = full();
        for (int made = 3; made < 60; made++) {
            x.open(EMPTY, 13, 1);
        }
        x.open(EMPTY, 15, 0);
        return x;
    }

    /** A notebook without a clip, pairs and images. */
    private static CoreBook clipless() {
        CoreBook x = new CoreBook();
        x.open(STONE, 13, 7);
        x.open(LABEL, 14, 42);
        fill(x, INTS, 4, 10, 20, 30);
        x.open(NO_INTS, 4, 0);
        return x;
    }

    /** full(), but column 0 holds an array of this type in which each element is one it can have. */
    private static CoreBook withRow(int type, int n) {
        CoreBook x = full();
        x.open(0, type, n);
        for (int i = 0; i < n; i++) {
            if (type < 8) {
                x.write(0, i, type, 8);
            }
        }
        return x;
    }

    // ======== What it is

    @Sentence(in = "What it is", says = "There are ten columns, each of which can hold an array")
    private static void a01_allTenColumnsHoldArraysAtOnce() {
        CoreBook x = new CoreBook();
        for (int c = 0; c < 10; c++) {
            fill(x, c, 4, 100 + c);
        }
        for (int c = 0; c < 10; c++) {
            alike("column " + c, row(x, c), numbers(4, 100 + c));
        }
    }

    @Sentence(in = "What it is", says = "two columns can hold the same array, and two elements the same object")
    private static void a02_sharedArraysAndObjects() {
        CoreBook x = new CoreBook();
        x.open(0, 10, 2);
        put(x, 0, 0, 8, 5);
        x.lay(0, 1);
        x.hang(0, 1, 0);
        x.chip(1);
        alike("both elements", row(x, 1), "10[2 8:6#1 8:6#1]");
        put(x, 1, 0, 11, 0);
        alike("both columns", row(x, 0), "10[2 11:0#0 8:6#1]");
    }

    @Sentence(in = "What it is", says = "An object is used for at most 512 calls after it has been made")
    private static void a03_theLastOf512CallsIsRight() {
        CoreBook x = new CoreBook();
        x.open(0, 4, 1);
        for (int call = 2; call <= 510; call++) {
            due("call " + call, x.write(0, 0, 4, call), DONE);
        }
        due("call 511", x.read(0, 0, 4), DONE);
        due("call 512", x.glass(), 510);
    }

    @Sentence(in = "What it is", says = "An object is used for at most 512 calls after it has been made")
    private static void a04_512DearCallsAreRight() {
        CoreBook x = new CoreBook();
        for (int c = 0; c < 10; c++) {
            x.open(c, 9, 24);
        }
        x.image(0);
        for (int call = 12; call < 512; call++) {
            due("call " + call, call % 2 == 0 ? x.restore(0) : x.image(0), 1);
        }
        due("call 512", x.length(9), 24);
    }

    // ======== ERRORS

    @Sentence(in = "Description", says = "UNKNOWN (-1): there is no such column")
    private static void b01_unknownInEachMethodWithAColumn() {
        ColumnCall[] calls = {
            (x, c) -> x.open(c, 4, 1), (x, c) -> x.hang(c, 0, 0), (x, c) -> x.hang(0, c, 0), (x, c) -> x.same(c, 0),
            (x, c) -> x.same(0, c), (x, c) -> x.length(c), (x, c) -> x.read(c, 0, 4), (x, c) -> x.write(c, 0, 4, 1),
            (x, c) -> x.take(c, 0), (x, c) -> x.lay(c, 0), (x, c) -> x.cut(c, 0, 1), (x, c) -> x.paste(c, 0),
            (x, c) -> x.turn(c, 4), (x, c) -> x.fits(c), (x, c) -> x.pour(c, 0, 0, 0, 4), (x, c) -> x.pour(0, 0, c, 0, 4),
            (x, c) -> x.sum(c, 4), (x, c) -> x.where(c, 4, 1, 0), (x, c) -> x.meet(c, 0, 4), (x, c) -> x.meet(0, c, 4),
            (x, c) -> x.gather(c, 0, 0), (x, c) -> x.gather(0, 0, c)};
        for (ColumnCall call : calls) {
            for (int c : NO_COLUMNS) {
                due("call on column " + c, call.on(full(), c), -1);
                due("call on column " + c + " of a new notebook", call.on(new CoreBook(), c), -1);
            }
        }
    }

    @Sentence(in = "Description", says = "WRONG (-2): another argument is out of range")
    private static void b02_wrongForAnotherArgument() {
        for (int far : new int[] {-1, LOW, HIGH}) {
            Call[] calls = {
                x -> x.open(0, far, 1), x -> x.open(0, 4, far), x -> x.open(0, 14, far), x -> x.hang(0, 0, far),
                x -> x.read(0, 0, far), x -> x.write(0, 0, far, 1), x -> x.hand(far, 1), x -> x.hand(10, far), x -> x.inHand(far), x -> x.turn(0, far),
                x -> x.pour(0, 0, 0, 0, far), x -> x.sum(0, far), x -> x.where(0, far, 1, 0), x -> x.where(0, 4, far, 0),
                x -> x.meet(0, 0, far), x -> x.pair(0, far), x -> x.gather(0, far, 0), x -> x.image(far), x -> x.restore(far),
                x -> x.met(far, 0), x -> x.met(0, far), x -> x.count(far)};
            for (int i = 0; i < calls.length; i++) {
                due("call " + i + " with " + far, calls[i].on(full()), -2);
                due("call " + i + " with " + far + " on a new notebook", calls[i].on(new CoreBook()), -2);
            }
        }
    }

    @Sentence(in = "Description", says = "STATE (-3): the call is not possible at present, as the method says")
    private static void b03_stateAtFirstAndThenPossible() {
        CoreBook x = new CoreBook();
        x.open(0, 4, 1);
        due("chip", x.chip(1), -3);
        due("paste", x.paste(0, 0), -3);
        due("restore", x.restore(1), -3);
        x.hand(8, 1);
        x.cut(0, 0, 1);
        x.image(1);
        due("chip", x.chip(1), 2);
        due("paste", x.paste(0, 0), DONE);
        due("restore", x.restore(1), 1);
    }

    @Sentence(in = "Description", says = "FULL (-4): a limit is reached")
    private static void b04_fullAtEachLimit() {
        CoreBook x = outOfStones();
        due("stones in a column", x.open(0, 13, 1), -4);
        due("stones in the hand", x.hand(8, 1), -4);
        due("gems in the hand", x.hand(9, 1), -4);
        x.open(0, 4, 23);
        due("elements", x.paste(0, 0), -4);
        due("pairs", x.meet(0, 0, 4), -4);
    }

    @Sentence(in = "Description", says = "If several of them apply, the first one in this order is returned")
    private static void b05_unknownComesBeforeWrong() {
        for (int c : NO_COLUMNS) {
            idle("open", x -> x.open(c, 16, 25), UNKNOWN);
            idle("hang", x -> x.hang(c, INTS, 2), UNKNOWN);
            idle("hang to", x -> x.hang(INTS, c, 2), UNKNOWN);
            idle("read", x -> x.read(c, 0, 8), UNKNOWN);
            idle("write", x -> x.write(c, 0, 8, 1), UNKNOWN);
            idle("turn", x -> x.turn(c, 13), UNKNOWN);
            idle("pour", x -> x.pour(c, 0, INTS, 0, 9), UNKNOWN);
            idle("pour to", x -> x.pour(INTS, 0, c, 0, 9), UNKNOWN);
            idle("sum", x -> x.sum(c, 0), UNKNOWN);
            idle("where", x -> x.where(c, 8, 3, 1), UNKNOWN);
            idle("meet", x -> x.meet(c, INTS, 8), UNKNOWN);
            idle("meet other", x -> x.meet(INTS, c, 8), UNKNOWN);
            idle("gather", x -> x.gather(c, 2, EMPTY), UNKNOWN);
            idle("gather to", x -> x.gather(INTS, 2, c), UNKNOWN);
        }
    }

    @Sentence(in = "Description", says = "If several of them apply, the first one in this order is returned")
    private static void b06_unknownComesBeforeStateAndFull() {
        for (int c : NO_COLUMNS) {
            idle("paste without a clip", SentenceTest::clipless, x -> x.paste(c, 0), UNKNOWN);
            idle("open", SentenceTest::outOfStones, x -> x.open(c, 13, 1), UNKNOWN);
        }
    }

    @Sentence(in = "Description", says = "If several of them apply, the first one in this order is returned")
    private static void b07_wrongComesBeforeStateAndFull() {
        for (int k : new int[] {-1, 2, LOW, HIGH}) {
            idle("restore without an image", SentenceTest::clipless, x -> x.restore(k), WRONG);
        }
        idle("open", SentenceTest::outOfStones, x -> x.open(INTS, 16, 1), WRONG);
        idle("open", SentenceTest::outOfStones, x -> x.open(INTS, 12, 25), WRONG);
        idle("hand", SentenceTest::outOfStones, x -> x.hand(12, 1), WRONG);
        idle("hand", SentenceTest::outOfStones, x -> x.hand(10, 100), WRONG);
    }

    @Sentence(in = "Description", says = "they are checked before the answers of section 2")
    private static void b08_errorsComeBeforeAnswers() {
        for (int c : new int[] {EMPTY, STONE, LABEL, ANY, NO_INTS, INTS}) {
            idle("hang", x -> x.hang(c, BYTES, 2), WRONG);
            idle("read", x -> x.read(c, 99, 8), WRONG);
            idle("write", x -> x.write(c, 99, 8, 1), WRONG);
            idle("turn", x -> x.turn(c, 13), WRONG);
            idle("pour", x -> x.pour(c, 99, c, 99, 9), WRONG);
            idle("sum", x -> x.sum(c, 8), WRONG);
            idle("where", x -> x.where(c, 8, 1, 1), WRONG);
            idle("where", x -> x.where(c, 4, 3, 1), WRONG);
            idle("meet", x -> x.meet(c, c, 8), WRONG);
            idle("gather", x -> x.gather(c, 2, BYTES), WRONG);
            idle("a column that is not there", x -> x.hang(c, 10, 1), UNKNOWN);
            idle("a column that is not there", x -> x.pour(c, 99, 10, 99, 4), UNKNOWN);
            idle("a column that is not there", x -> x.meet(c, 10, 4), UNKNOWN);
            idle("a column that is not there", x -> x.gather(c, 0, 10), UNKNOWN);
        }
        for (int c : new int[] {EMPTY, STONE, LABEL, NO_INTS, INTS}) {
            idle("paste without a clip", SentenceTest::clipless, x -> x.paste(c, 99), STATE);
        }
    }

    @Sentence(in = "Description",
        says = "A call that returns an error code changes nothing and counts nothing, unless the method says "
            + "otherwise")
    private static void b09_errorsAlsoKeepWhatColumnsShare() {
        idle("hang", x -> x.hang(INTS, TWIN, 7), WRONG);
        idle("open", x -> x.open(TWIN, 4, 25), WRONG);
        idle("turn", x -> x.turn(TWIN, 13), WRONG);
        idle("image", x -> x.image(2), WRONG);
        idle("restore", x -> x.restore(2), WRONG);
        idle("hand", x -> x.hand(12, 5), WRONG);
        idle("inHand", x -> x.inHand(3), WRONG);
        idle("chip", () -> after(SentenceTest::full, x -> x.hand(10, 7)), x -> x.chip(5), STATE);
    }

    @Sentence(in = "Description",
        says = "NONE (-6) is not an error code; it means that there is no such value, and is returned only if "
            + "no error code applies")
    private static void b10_noneOnlyIfNoErrorApplies() {
        idle("no such pair", x -> x.pair(3, 0), NONE);
        idle("no such pair, and no such side", x -> x.pair(3, 2), WRONG);
        idle("no such pair, and no such side", x -> x.pair(-1, -1), WRONG);
        idle("no clip", SentenceTest::clipless, x -> x.count(2), NONE);
        idle("nothing kept", CoreBook::new, x -> x.count(0), NONE);
        idle("no such count", CoreBook::new, x -> x.count(6), WRONG);
    }

    // ======== section 1

    @Sentence(in = "Description", says = "There are ten columns, 0 to 9")
    private static void c01_columns0And9AreThereAndMinus1And10AreNot() {
        CoreBook x = new CoreBook();
        due("column 0", x.open(0, 0, 1), 0);
        due("column 9", x.open(9, 12, 1), 0);
        due("column -1", x.open(-1, 4, 1), UNKNOWN);
        due("column 10", x.open(10, 4, 1), UNKNOWN);
        due("what 0 holds", x.count(10), 0);
        due("what 9 holds", x.count(19), 12);
    }

    @Sentence(in = "Description",
        says = "A column holds nothing, as at first, or an array, or a single object that is no array: a stone "
            + "or a label")
    private static void c02_columnsHoldNothingAtFirst() {
        for (int c = 0; c < 10; c++) {
            due("column " + c, new CoreBook().count(10 + c), 15);
            due("length of column " + c, new CoreBook().length(c), MISS - NOTHING);
        }
    }

    @Sentence(in = "Description", says = "An array has a type and 0 to 24 elements, numbered from 0")
    private static void c03_arraysOf0And24Elements() {
        for (int type = 0; type <= 12; type++) {
            CoreBook x = new CoreBook();
            x.open(0, type, 24);
            due("type " + type + ", element 0", x.take(0, 0), DONE);
            due("type " + type + ", element 23", x.take(0, 23), DONE);
            due("type " + type + ", element 24", x.take(0, 24), BEYOND);
            x.open(0, type, 0);
            due("type " + type + ", element 0 of none", x.take(0, 0), BEYOND);
            x.open(0, type, 1);
            due("type " + type + ", element 0 of one", x.take(0, 0), DONE);
            due("type " + type + ", element 1 of one", x.take(0, 1), BEYOND);
        }
    }

    @Sentence(in = "Description",
        says = "each element is a number of this type, as in Java; a boolean is 0 or 1 here, and a char is 0 "
            + "to 65535")
    private static void c04_theLeastAndTheGreatestNumberOfEachType() {
        long[][] edges = {{0, 1}, {-128, 127}, {0, 65535}, {-32768, 32767}, {LOW, HIGH}, {Long.MIN_VALUE, Long.MAX_VALUE}};
        for (int type = 0; type < 6; type++) {
            CoreBook x = new CoreBook();
            fill(x, 0, type, edges[type]);
            alike("type " + type, row(x, 0), numbers(type, edges[type]));
        }
    }

    @Sentence(in = "Description", says = "8: each element is nothing or a number of type 4")
    private static void c05_type8() {
        only(8, "4 11");
    }

    @Sentence(in = "Description", says = "9: nothing, a number of a type 0 to 7, or a label")
    private static void c06_type9() {
        only(9, "0 1 2 3 4 5 6 7 10 11");
    }

    @Sentence(in = "Description", says = "10: nothing or a stone (also a gem)")
    private static void c07_type10() {
        only(10, "8 9 11");
    }

    @Sentence(in = "Description", says = "11: nothing or a gem")
    private static void c08_type11() {
        only(11, "9 11");
    }

    @Sentence(in = "Description", says = "12: nothing or a label")
    private static void c09_type12() {
        only(12, "10 11");
    }

    /** Elements of this type can be the things of these kinds, and no others. */
    private static void only(int type, String kinds) {
        for (int kind = 0; kind <= 11; kind++) {
            boolean can = (" " + kinds + " ").contains(" " + kind + " ");
            CoreBook x = new CoreBook();
            x.open(0, type, 1);
            due("kind " + kind + " into type " + type, put(x, 0, 0, kind, 5), can ? DONE : UNFIT);
            x.hand(10, 99);
            x.take(0, 0);
            due("the element then", x.inHand(0), can ? kind : 11);
        }
    }

    @Sentence(in = "Description", says = "The elements of a new array are 0 (types 0 to 7) or nothing")
    private static void c10_newElements() {
        for (int type = 0; type <= 12; type++) {
            CoreBook x = new CoreBook();
            x.hand(10, 9);
            x.open(0, type, 24);
            for (int i = 0; i < 24; i++) {
                x.take(0, i);
                due("kind of element " + i, x.inHand(0), type < 8 ? type : 11);
                due("element " + i, x.inHand(1), 0);
            }
        }
    }

    @Sentence(in = "Description",
        says = "Stones are objects, numbered 1, 2, and so on in the order in which they are made; at most 60 "
            + "are made")
    private static void c11_stonesAreNumberedFrom1To60() {
        CoreBook x = new CoreBook();
        for (int i = 1; i <= 60; i++) {
            if (i % 3 == 0) {
                due("stone in a column", x.open(0, 13, i), 0);
            } else {
                due("stone in the hand", x.hand(i % 3 == 1 ? 8 : 9, i), 0);
                due("its number", x.inHand(2), i);
            }
        }
        due("stone 61", x.hand(8, 1), FULL);
        due("gem 61", x.hand(9, 1), FULL);
        due("stone 61 in a column", x.open(0, 13, 1), FULL);
        due("stones", x.count(4), 60);
    }

    @Sentence(in = "Description", says = "A stone has a weight, an int")
    private static void c12_theLeastAndTheGreatestWeight() {
        CoreBook x = new CoreBook();
        x.hand(8, LOW);
        due("least", x.inHand(1), LOW);
        x.hand(8, HIGH);
        due("greatest", x.inHand(1), HIGH);
        x.hand(8, 1L + HIGH);
        due("one more than an int", x.inHand(1), LOW);
    }

    @Sentence(in = "Description", says = "Gems are stones of a special kind")
    private static void c13_gemsAreStonesButStonesAreNoGems() {
        CoreBook x = new CoreBook();
        x.open(0, 10, 2);
        x.open(1, 11, 1);
        due("a gem among stones", put(x, 0, 0, 9, 5), DONE);
        due("a gem among gems", x.lay(1, 0), DONE);
        due("numbered like stones", x.inHand(2), 1);
        due("chipped like stones", x.chip(1), 6);
        due("a stone among stones", put(x, 0, 1, 8, 5), DONE);
        due("a stone among gems", x.lay(1, 0), UNFIT);
        due("numbered after the gem", x.inHand(2), 2);
        alike("stones", row(x, 0), "10[2 9:6#1 8:5#2]");
        alike("gems", row(x, 1), "11[1 9:6#1]");
    }

    @Sentence(in = "Description", says = "A label is one of the numbers 0 to 99")
    private static void c14_labels0And99() {
        for (int label : new int[] {0, 1, 98, 99}) {
            CoreBook x = new CoreBook();
            due("open", x.open(0, 14, label), 0);
            due("hand", x.hand(10, label), 0);
            due("in the hand", x.inHand(1), label);
        }
        for (int label : new int[] {-1, 100, LOW, HIGH}) {
            CoreBook x = new CoreBook();
            due("open", x.open(0, 14, label), WRONG);
            due("hand", x.hand(10, label), WRONG);
        }
    }

    @Sentence(in = "Description",
        says = "Of the types 0 to 7, each widens to itself, and byte to short, int, long, float, double; char "
            + "to int, long, float, double; short to int, long, float, double; int to long, float, double; "
            + "long to float, double; float to double")
    private static void c15_whatWidensToWhat() {
        for (int from = 0; from < 8; from++) {
            for (int to = 0; to < 8; to++) {
                String what = from + " to " + to;
                int answer = widens(from, to) ? DONE : UNFIT;
                CoreBook x = new CoreBook();
                fill(x, 0, from, 8);
                x.open(1, to, 1);
                due("reading " + what, x.read(0, 0, to), answer);
                due("writing " + what, x.write(1, 0, from, 8), answer);
                due("laying " + what, put(x, 1, 0, from, 8), answer);
                due("turning " + what, x.turn(0, to), answer);
            }
        }
    }

    @Sentence(in = "Description", says = "The number is converted as in Java (to float or double it may be rounded)")
    private static void c16_roundedWhenWidened() {
        long[] longs = {(1L << 24) + 1, (1L << 24) + 3, -(1L << 24) - 1, (1L << 53) + 1, (1L << 53) + 3, -(1L << 53) - 1,
            Long.MAX_VALUE, Long.MIN_VALUE, Long.MIN_VALUE + 1, (1L << 62) + (1L << 38), (1L << 62) + (1L << 38) + 1};
        for (long v : longs) {
            CoreBook x = new CoreBook();
            fill(x, 0, 5, v);
            x.read(0, 0, 6);
            due(v + " as a float", x.glass(), bits((float) v));
            x.read(0, 0, 7);
            due(v + " as a double", x.glass(), bits((double) v));
            x.open(1, 6, 1);
            x.write(1, 0, 5, v);
            alike(v + " written as a float", row(x, 1), numbers(6, bits((float) v)));
            x.open(1, 7, 1);
            put(x, 1, 0, 5, v);
            alike(v + " laid as a double", row(x, 1), numbers(7, bits((double) v)));
        }
        for (int v : new int[] {HIGH, LOW, (1 << 24) + 1, -(1 << 24) - 3}) {
            CoreBook x = new CoreBook();
            fill(x, 0, 4, v);
            x.read(0, 0, 6);
            due(v + " as a float", x.glass(), bits((float) v));
            x.read(0, 0, 7);
            due(v + " as a double", x.glass(), bits((double) v));
        }
    }

    @Sentence(in = "Description",
        says = "for the types 0 to 5 the number itself; for a float the result of Float.floatToIntBits; for a "
            + "double the result of Double.doubleToLongBits")
    private static void c17_codes() {
        long[] values = {0, 1, -1, 7, 8, -8, 9, 15, 16, 255, -256, (1L << 26) - 1, (1L << 27) + 8, -(1L << 31), Long.MAX_VALUE,
            Long.MIN_VALUE, (1L << 55) - 1, (1L << 56) + 8};
        for (long v : values) {
            CoreBook x = new CoreBook();
            x.hand(5, v);
            due("long", x.inHand(1), v);
            x.hand(6, v);
            due("float", x.inHand(1), bits((float) v / 8));
            x.hand(7, v);
            due("double", x.inHand(1), bits((double) v / 8));
        }
        CoreBook x = new CoreBook();
        x.hand(6, -8);
        due("a negative code of a negative float", x.inHand(1), 0xFFFFFFFFBF800000L);
    }

    @Sentence(in = "Description", says = "for type 0, 1 if v is odd, else 0")
    private static void c18_booleansFromOddAndEven() {
        made(0, 0, 0);
        made(0, 1, 1);
        made(0, 2, 0);
        made(0, -1, 1);
        made(0, -2, 0);
        made(0, Long.MAX_VALUE, 1);
        made(0, Long.MIN_VALUE, 0);
    }

    @Sentence(in = "Description", says = "for types 1 to 4, v narrowed as by a Java cast")
    private static void c19_narrowedWithWrapAround() {
        long[] values = {127, 128, -128, -129, 255, 256, 32767, 32768, -32768, -32769, 65535, 65536, -1, HIGH, 1L + HIGH, LOW,
            LOW - 1L, 1L << 32, (1L << 32) - 1, Long.MAX_VALUE, Long.MIN_VALUE};
        for (long v : values) {
            made(1, v, (byte) v);
            made(2, v, (char) v);
            made(3, v, (short) v);
            made(4, v, (int) v);
        }
    }

    @Sentence(in = "Description", says = "for type 5, v")
    private static void c20_longsAsTheyAre() {
        for (long v : new long[] {0, -1, 1L << 32, Long.MAX_VALUE, Long.MIN_VALUE}) {
            made(5, v, v);
        }
    }

    @Sentence(in = "Description", says = "for type 6, (float) v divided by 8; for type 7, (double) v divided by 8")
    private static void c21_eighths() {
        for (long v : new long[] {0, 1, -1, 12, (1L << 24) + 1, (1L << 53) + 1, Long.MAX_VALUE, Long.MIN_VALUE}) {
            made(6, v, bits((float) v / 8));
            made(7, v, bits((double) v / 8));
        }
    }

    /** The number of type k that is made from v has this code, in the hand and in an element. */
    private static void made(int k, long v, long code) {
        CoreBook x = new CoreBook();
        x.hand(k, v);
        due("type " + k + " from " + v + " in the hand", x.inHand(1), code);
        fill(x, 0, k, v);
        x.read(0, 0, k);
        due("type " + k + " from " + v + " in an element", x.glass(), code);
    }

    @Sentence(in = "Description", says = "The display shows a number, whose code glass() returns; it is 0 at first")
    private static void c22_theDisplayAtFirst() {
        due("glass", new CoreBook().glass(), 0);
    }

    @Sentence(in = "Description", says = "The hand holds a number with its type, a stone, a label, or nothing, as at first")
    private static void c23_theHandAtFirst() {
        CoreBook x = new CoreBook();
        due("inHand(0)", x.inHand(0), 11);
        due("inHand(1)", x.inHand(1), 0);
        due("inHand(2)", x.inHand(2), 0);
        x.open(0, 9, 1);
        due("laid", x.lay(0, 0), DONE);
    }

    @Sentence(in = "Description", says = "The clip is an array that the latest cut() has cut out; at first there is none")
    private static void c24_noClipAtFirstThenTheLatest() {
        CoreBook x = new CoreBook();
        fill(x, 0, 4, 1, 2, 3);
        due("no clip", x.paste(0, 0), STATE);
        x.cut(0, 0, 1);
        x.cut(0, 1, 1);
        alike("the latest", clip(x), numbers(4, 3));
    }

    @Sentence(in = "Description", says = "The pairs are a list of at most 24 pairs of element indices, empty at first")
    private static void c25_noPairsAtFirstAndAtMost24() {
        CoreBook x = new CoreBook();
        due("pairs", x.count(1), 0);
        due("pair 0", x.pair(0, 0), NONE);
        x.open(0, 4, 24);
        due("24 pairs", x.where(0, 4, 1, 0), 24);
        due("24 pairs", x.count(1), 24);
        due("25 pairs and more", x.meet(0, 0, 4), FULL);
        due("24 pairs", x.count(1), 24);
    }

    // ======== section 2

    @Sentence(in = "Description", says = "1 NOTHING: the column holds nothing")
    private static void d01_nothingBeforeAllOthers() {
        for (int cell : new int[] {0, -1, 24, HIGH, LOW}) {
            for (int k = 0; k < 8; k++) {
                int type = k;
                missed("read", x -> x.read(EMPTY, cell, type), k, NOTHING);
                missed("write", x -> x.write(EMPTY, cell, type, 1), WRITE + k, NOTHING);
            }
            missed("take", x -> x.take(EMPTY, cell), TAKE, NOTHING);
            missed("lay", x -> x.lay(EMPTY, cell), LAY, NOTHING);
        }
        missed("length", SentenceTest::full, x -> x.length(EMPTY), MISS - NOTHING, LENGTH, NOTHING);
    }

    @Sentence(in = "Description", says = "2 NO_ROW: it holds an object that is no array")
    private static void d02_noRowForStonesAndLabels() {
        for (int column : new int[] {STONE, LABEL}) {
            for (int cell : new int[] {0, -1, 24, HIGH, LOW}) {
                for (int k = 0; k < 8; k++) {
                    int type = k;
                    missed("read", x -> x.read(column, cell, type), k, NO_ROW);
                    missed("write", x -> x.write(column, cell, type, 1), WRITE + k, NO_ROW);
                }
                missed("take", x -> x.take(column, cell), TAKE, NO_ROW);
                missed("lay", x -> x.lay(column, cell), LAY, NO_ROW);
            }
            missed("length", SentenceTest::full, x -> x.length(column), MISS - NO_ROW, LENGTH, NO_ROW);
        }
    }

    @Sentence(in = "Description", says = "3 THINGS: only for reading and writing: it holds an array of type 8 to 12")
    private static void d03_thingsForTypes8To12() {
        for (int type = 8; type <= 12; type++) {
            int kind = type;
            for (int cell : new int[] {0, 1, -1, 24}) {
                for (int k = 0; k < 8; k++) {
                    int as = k;
                    Book book = () -> withRow(kind, 1);
                    missed("read of type " + type, book, x -> x.read(0, cell, as), THINGS, k, THINGS);
                    missed("write of type " + type, book, x -> x.write(0, cell, as, 1), THINGS, WRITE + k, THINGS);
                }
            }
        }
    }

    @Sentence(in = "Description", says = "3 THINGS: only for reading and writing")
    private static void d04_noThingsForTakingLayingAndTheLength() {
        for (int type = 8; type <= 12; type++) {
            CoreBook x = withRow(type, 1);
            due("take", x.take(0, 0), DONE);
            due("lay", x.lay(0, 0), DONE);
            due("take beyond", x.take(0, 1), BEYOND);
            due("lay beyond", x.lay(0, 1), BEYOND);
            due("length", x.length(0), 1);
            x.hand(0, 1);
            due("lay unfit", x.lay(0, 0), type == 9 ? DONE : UNFIT);
        }
    }

    @Sentence(in = "Description", says = "3 THINGS: only for reading and writing: it holds an array of type 8 to 12")
    private static void d05_noThingsForType7() {
        CoreBook x = withRow(7, 1);
        due("read", x.read(0, 0, 7), DONE);
        due("write", x.write(0, 0, 7, 1), DONE);
    }

    @Sentence(in = "Description", says = "4 BEYOND: not for the length: there is no such element (also if the index is negative)")
    private static void d06_beyondTooLargeAndNegative() {
        for (int cell : new int[] {-1, 3, 24, LOW, HIGH}) {
            for (int k = 0; k < 8; k++) {
                int type = k;
                missed("read " + cell, x -> x.read(INTS, cell, type), k, BEYOND);
                missed("write " + cell, x -> x.write(INTS, cell, type, 1), WRITE + k, BEYOND);
            }
            missed("take " + cell, x -> x.take(INTS, cell), TAKE, BEYOND);
            missed("lay " + cell, x -> x.lay(INTS, cell), LAY, BEYOND);
            missed("take a thing " + cell, x -> x.take(ANY, cell), TAKE, BEYOND);
            missed("lay a thing " + cell, x -> x.lay(ANY, cell), LAY, BEYOND);
        }
        for (int cell = 0; cell < 3; cell++) {
            CoreBook x = full();
            due("read " + cell, x.read(INTS, cell, 4), DONE);
            due("write " + cell, x.write(INTS, cell, 4, 1), DONE);
            due("take " + cell, x.take(INTS, cell), DONE);
            due("lay " + cell, x.lay(INTS, cell), DONE);
        }
    }

    @Sentence(in = "Description", says = "4 BEYOND: not for the length")
    private static void d07_theLengthOfAnEmptyArrayIsNotBeyond() {
        CoreBook x = full();
        due("length", x.length(NO_INTS), 0);
        due("counted as DONE", x.met(LENGTH, DONE), 1);
        due("not as BEYOND", x.met(LENGTH, BEYOND), 0);
    }

    @Sentence(in = "Description", says = "It is the first one of these that applies")
    private static void d08_beyondComesBeforeUnfit() {
        missed("read", x -> x.read(NO_INTS, 0, 0), 0, BEYOND);
        missed("read", x -> x.read(INTS, 3, 3), 3, BEYOND);
        missed("write", x -> x.write(NO_INTS, 0, 7, 1), WRITE + 7, BEYOND);
        missed("lay a gem", x -> x.lay(INTS, 3), LAY, BEYOND);
        missed("read within", x -> x.read(INTS, 2, 3), 3, UNFIT);
        missed("write within", x -> x.write(INTS, 2, 7, 1), WRITE + 7, UNFIT);
        missed("lay within", x -> x.lay(INTS, 2), LAY, UNFIT);
    }

    @Sentence(in = "Description", says = "If the answer is not DONE, nothing changes, except what is counted")
    private static void d09_unfitChangesNothing() {
        for (int type = 0; type < 8; type++) {
            int at = type;
            Book book = () -> withRow(at, 2);
            for (int k = 0; k < 8; k++) {
                int as = k;
                if (!widens(type, k)) {
                    missed("read type " + type, book, x -> x.read(0, 1, as), UNFIT, k, UNFIT);
                }
                if (!widens(k, type)) {
                    missed("write into type " + type, book, x -> x.write(0, 1, as, 3), UNFIT, WRITE + k, UNFIT);
                }
            }
            missed("lay into type " + type, book, x -> x.lay(0, 1), UNFIT, LAY, UNFIT);
        }
    }

    @Sentence(in = "Description", says = "UNFIT if the type of the array does not widen to this type")
    private static void d10_readingUnfit() {
        for (int type = 0; type < 8; type++) {
            for (int k = 0; k < 8; k++) {
                CoreBook x = withRow(type, 1);
                due("type " + type + " as " + k, x.read(0, 0, k), widens(type, k) ? DONE : UNFIT);
                due("counted", x.met(k, UNFIT), widens(type, k) ? 0 : 1);
            }
        }
    }

    @Sentence(in = "Description", says = "The display shows the number then, converted to this type")
    private static void d11_theDisplayShowsTheEdgesConverted() {
        int[] types = {1, 1, 2, 3, 3, 4, 4};
        long[] edges = {-128, 127, 65535, -32768, 32767, LOW, HIGH};
        for (int i = 0; i < edges.length; i++) {
            CoreBook x = new CoreBook();
            fill(x, 0, types[i], edges[i]);
            x.read(0, 0, 5);
            due(edges[i] + " as a long", x.glass(), edges[i]);
            x.read(0, 0, 6);
            due(edges[i] + " as a float", x.glass(), bits((float) edges[i]));
            x.read(0, 0, 7);
            due(edges[i] + " as a double", x.glass(), bits((double) edges[i]));
        }
        CoreBook x = new CoreBook();
        fill(x, 0, 6, (1L << 24) + 1);
        x.read(0, 0, 7);
        due("a float as a double", x.glass(), bits((double) ((float) ((1L << 24) + 1) / 8)));
    }

    @Sentence(in = "Description",
        says = "a number with the type of the array (type 4 for an array of type 8; for type 9 with its own "
            + "type), a stone, a label, or nothing")
    private static void d12_takenFromEachType() {
        for (int type = 0; type < 8; type++) {
            CoreBook x = withRow(type, 1);
            x.take(0, 0);
            due("type of a number", x.inHand(0), type);
            x.open(0, 9, 1);
            due("laid into type 9", x.lay(0, 0), DONE);
            x.hand(10, 5);
            x.take(0, 0);
            due("with its own type", x.inHand(0), type);
        }
        CoreBook x = withRow(8, 2);
        put(x, 0, 0, 4, -7);
        alike("type 8", row(x, 0), "8[2 4:-7#0 11:0#0]");
        x.open(0, 9, 2);
        put(x, 0, 0, 10, 99);
        alike("type 9", row(x, 0), "9[2 10:99#0 11:0#0]");
        alike("type 10", row(x, STONES), "10[2 8:40#2 9:50#3]");
        x.open(0, 11, 2);
        put(x, 0, 0, 9, 6);
        alike("type 11", row(x, 0), "11[2 9:6#4 11:0#0]");
        x.open(0, 12, 2);
        put(x, 0, 0, 10, 0);
        alike("type 12", row(x, 0), "12[2 10:0#0 11:0#0]");
    }

    @Sentence(in = "Description", says = "The element keeps it, too")
    private static void d13_theElementKeepsWhatIsTaken() {
        CoreBook x = full();
        x.take(STONES, 0);
        x.hand(11, 0);
        alike("stones", row(x, STONES), "10[2 8:40#2 9:50#3]");
        x.take(INTS, 0);
        x.hand(11, 0);
        alike("ints", row(x, INTS), numbers(4, 10, 20, 30));
    }

    @Sentence(in = "Description", says = "UNFIT if this type does not widen to the type of the array")
    private static void d14_writingUnfit() {
        for (int type = 0; type < 8; type++) {
            for (int k = 0; k < 8; k++) {
                CoreBook x = full();
                x.open(0, type, 1);
                due("type " + k + " into " + type, x.write(0, 0, k, 8), widens(k, type) ? DONE : UNFIT);
                due("counted", x.met(WRITE + k, UNFIT), widens(k, type) ? 0 : 1);
            }
        }
    }

    @Sentence(in = "Description", says = "The element has the number then, converted to the type of the array")
    private static void d15_writtenEdgesAreConverted() {
        CoreBook x = new CoreBook();
        x.open(0, 7, 4);
        x.write(0, 0, 1, 200);
        x.write(0, 1, 2, -1);
        x.write(0, 2, 5, Long.MAX_VALUE);
        x.write(0, 3, 6, (1L << 24) + 1);
        alike("doubles", row(x, 0), numbers(7, bits((double) (byte) 200), bits(65535.0), bits((double) Long.MAX_VALUE),
            bits((double) ((float) ((1L << 24) + 1) / 8))));
        x.open(0, 5, 2);
        x.write(0, 0, 4, 1L << 31);
        x.write(0, 1, 3, 32768);
        alike("longs", row(x, 0), numbers(5, LOW, -32768));
    }

    @Sentence(in = "Description",
        says = "for an array of type 0 to 7, if it is not a number of a type that widens to the type of the "
            + "array (so for nothing, too)")
    private static void d16_layingUnfitIntoNumbers() {
        for (int type = 0; type < 8; type++) {
            int at = type;
            for (int kind = 0; kind <= 11; kind++) {
                int what = kind;
                Book book = () -> after(() -> withRow(at, 1), x -> x.hand(what, 5));
                if (kind < 8 && widens(kind, type)) {
                    due("kind " + kind + " into " + type, book.make().lay(0, 0), DONE);
                } else {
                    missed("kind " + kind + " into " + type, book, x -> x.lay(0, 0), UNFIT, LAY, UNFIT);
                }
            }
        }
    }

    @Sentence(in = "Description",
        says = "for the types 8 to 12, if it is not one of the things that such an element can be by section 1")
    private static void d17_layingUnfitIntoThings() {
        String[] can = {" 4 11 ", " 0 1 2 3 4 5 6 7 10 11 ", " 8 9 11 ", " 9 11 ", " 10 11 "};
        for (int type = 8; type <= 12; type++) {
            int at = type;
            for (int kind = 0; kind <= 11; kind++) {
                int what = kind;
                Book book = () -> after(() -> withRow(at, 1), x -> x.hand(what, 5));
                if (can[type - 8].contains(" " + kind + " ")) {
                    due("kind " + kind + " into " + type, book.make().lay(0, 0), DONE);
                } else {
                    missed("kind " + kind + " into " + type, book, x -> x.lay(0, 0), UNFIT, LAY, UNFIT);
                }
            }
        }
    }

    @Sentence(in = "Description",
        says = "The element has it then, converted if the array has a type 0 to 7; the hand keeps it, too")
    private static void d18_laidIsConvertedAndTheHandKeepsIt() {
        CoreBook x = new CoreBook();
        x.open(0, 6, 1);
        x.open(1, 9, 1);
        x.hand(5, Long.MAX_VALUE);
        x.lay(0, 0);
        due("the hand's type", x.inHand(0), 5);
        due("the hand's number", x.inHand(1), Long.MAX_VALUE);
        x.lay(1, 0);
        alike("converted", row(x, 0), numbers(6, bits((float) Long.MAX_VALUE)));
        alike("not converted", row(x, 1), "9[1 5:" + Long.MAX_VALUE + "#0]");
    }

    @Sentence(in = "Description", says = "The element has it then, converted if the array has a type 0 to 7")
    private static void d19_nothingIsLaidInPlaceOfAThing() {
        for (int type = 8; type <= 12; type++) {
            CoreBook x = new CoreBook();
            x.open(0, type, 1);
            put(x, 0, 0, type == 8 ? 4 : type == 9 ? 10 : type == 12 ? 10 : 9, 5);
            due("lay", put(x, 0, 0, 11, 0), DONE);
            alike("nothing", row(x, 0), type + "[1 11:0#0]");
        }
    }

    @Sentence(in = "Description", says = "18: the length, that is, the number of elements")
    private static void d20_theLengthWhenTheArrayIsReplaced() {
        CoreBook x = full();
        due("three", x.length(INTS), 3);
        x.cut(INTS, 0, 3);
        due("none", x.length(INTS), 0);
        x.paste(INTS, 0);
        x.paste(INTS, 0);
        due("six", x.length(INTS), 6);
        due("counted", x.met(LENGTH, DONE), 3);
    }

    @Sentence(in = "Description",
        says = "The accesses that read(), write(), take(), lay(), length(), pour(), sum(), where() and meet() "
            + "make are counted by their numbers and answers")
    private static void d21_eachAccessIsCountedUnderItsNumber() {
        for (int k = 0; k < 8; k++) {
            CoreBook x = new CoreBook();
            x.open(0, k, 1);
            x.read(0, 0, k);
            x.write(0, 0, k, 1);
            alike("type " + k, counted(x), "counted 2: " + k + "/0*1 " + (9 + k) + "/0*1");
        }
        CoreBook x = new CoreBook();
        x.open(0, 4, 1);
        x.take(0, 0);
        x.lay(0, 0);
        x.length(0);
        alike("take, lay, length", counted(x), "counted 3: 8/0*1 17/0*1 18/0*1");
        x.pour(0, 0, 0, 0, 8);
        alike("pour", counted(x), "counted 4: 8/0*2 8/4*1 17/0*2 18/0*1");
        x.sum(0, 7);
        alike("sum", counted(x), "counted 6: 7/0*1 7/4*1 8/0*2 8/4*1 17/0*2 18/0*1");
        x.where(0, 7, 1, 0);
        x.meet(0, 0, 7);
        alike("where, meet", counted(x), "counted 6: 7/0*4 7/4*4 8/0*2 8/4*1 17/0*2 18/0*1");
    }

    @Sentence(in = "Description", says = "those of other methods are not counted")
    private static void d22_otherMethodsCountNothing() {
        String before = counted(full());
        for (int c = 0; c < 10; c++) {
            CoreBook x = full();
            x.hang(c, c, 1);
            x.same(c, c);
            x.fits(c);
            x.gather(c, 0, c);
            x.turn(c, 4);
            x.turn(c, 0);
            x.paste(c, 0);
            x.paste(c, 25);
            x.cut(c, 0, 1);
            x.cut(c, 0, 25);
            x.image(0);
            x.restore(1);
            x.chip(1);
            x.glass();
            x.inHand(1);
            x.pair(0, 0);
            x.hand(4, 1);
            x.open(c, 4, 1);
            alike("column " + c, counted(x), before);
        }
    }

    @Sentence(in = "Description", says = "UNKNOWN = -1, WRONG = -2, STATE = -3, FULL = -4, NONE = -6, MISS = -10")
    private static void e01_errorConstants() {
        due("UNKNOWN", CoreBook.UNKNOWN, UNKNOWN);
        due("WRONG", CoreBook.WRONG, WRONG);
        due("STATE", CoreBook.STATE, STATE);
        due("FULL", CoreBook.FULL, FULL);
        due("NONE", CoreBook.NONE, NONE);
        due("MISS", CoreBook.MISS, MISS);
    }

    @Sentence(in = "Description", says = "DONE = 0, NOTHING = 1, NO_ROW = 2, THINGS = 3, BEYOND = 4, UNFIT = 5")
    private static void e02_answerConstants() {
        due("DONE", CoreBook.DONE, DONE);
        due("NOTHING", CoreBook.NOTHING, NOTHING);
        due("NO_ROW", CoreBook.NO_ROW, NO_ROW);
        due("THINGS", CoreBook.THINGS, THINGS);
        due("BEYOND", CoreBook.BEYOND, BEYOND);
        due("UNFIT", CoreBook.UNFIT, UNFIT);
    }

    @Sentence(in = "Description", says = "MISS: length(), sum(), where() and meet() return MISS minus an answer")
    private static void e03_missMinusAnAnswer() {
        int[] columns = {EMPTY, STONE, ANY, INTS};
        int[] answers = {NOTHING, NO_ROW, THINGS, UNFIT};
        for (int i = 0; i < 4; i++) {
            due("sum", full().sum(columns[i], 1), -10 - answers[i]);
            due("where", full().where(columns[i], 1, 1, 1), -10 - answers[i]);
            due("meet", full().meet(columns[i], BYTES, 1), -10 - answers[i]);
            due("meet other", full().meet(BYTES, columns[i], 1), -10 - answers[i]);
        }
        due("length", full().length(EMPTY), -11);
        due("length", full().length(STONE), -12);
    }

    // ======== Promise 1: a new object

    @Sentence(in = "Promise 1", says = "Creates a notebook whose columns hold nothing")
    private static void p01_a_columnsHoldNothing() {
        CoreBook x = new CoreBook();
        for (int c = 0; c < 10; c++) {
            due("column " + c, x.count(10 + c), 15);
            due("fits", x.fits(c), 0);
            due("same", x.same(c, 0), 0);
        }
    }

    @Sentence(in = "Promise 1", says = "without stones, clip, pairs and images")
    private static void p01_b_withoutStones() {
        CoreBook x = new CoreBook();
        due("stones", x.count(4), 0);
        x.hand(8, 1);
        due("the first stone", x.inHand(2), 1);
    }

    @Sentence(in = "Promise 1", says = "without stones, clip, pairs and images")
    private static void p01_c_withoutClip() {
        CoreBook x = new CoreBook();
        due("elements of the clip", x.count(2), NONE);
        due("type of the clip", x.count(3), NONE);
        x.open(0, 4, 1);
        due("paste", x.paste(0, 0), STATE);
    }

    @Sentence(in = "Promise 1", says = "without stones, clip, pairs and images")
    private static void p01_d_withoutPairs() {
        CoreBook x = new CoreBook();
        due("pairs", x.count(1), 0);
        due("pair 0", x.pair(0, 0), NONE);
        x.open(0, 4, 1);
        due("gather", x.gather(0, 0, 1), DONE);
        due("nothing is gathered", x.length(1), 0);
    }

    @Sentence(in = "Promise 1", says = "without stones, clip, pairs and images")
    private static void p01_e_withoutImages() {
        due("image 0", new CoreBook().restore(0), STATE);
        due("image 1", new CoreBook().restore(1), STATE);
    }

    @Sentence(in = "Promise 1", says = "in which nothing has been counted")
    private static void p01_f_nothingCounted() {
        CoreBook x = new CoreBook();
        due("accesses", allCounted(x), 0);
        due("kinds", x.count(5), 0);
        due("answer kept", x.count(0), NONE);
    }

    @Sentence(in = "Promise 1", says = "Creates a notebook whose columns hold nothing")
    private static void p01_g_notebooksShareNothing() {
        String empty = seen(CoreBook::new, x -> 0) + counted(new CoreBook());
        CoreBook old = full();
        due("the old one", old.count(4), 3);
        alike("a new one beside it", seen(CoreBook::new, x -> 0) + counted(new CoreBook()), empty);
        alike("the old one beside new ones", rows(old), rows(full()));
    }

    // ======== Promise 2: open

    @Sentence(in = "Promise 2", says = "Puts something new into a column, in place of what it held")
    private static void p02_a_inPlaceOfWhateverWasThere() {
        for (int was = 0; was <= 15; was++) {
            for (int what = 0; what <= 15; what++) {
                CoreBook x = new CoreBook();
                x.open(5, was, 2);
                due("open", x.open(5, what, 3), 0);
                due(what + " in place of " + was, x.count(15), what);
                due("length", x.length(5), what < 13 ? 3 : what < 15 ? MISS - NO_ROW : MISS - NOTHING);
            }
        }
    }

    @Sentence(in = "Promise 2", says = "Puts something new into a column, in place of what it held")
    private static void p02_b_otherColumnsKeepTheOldArray() {
        CoreBook x = full();
        x.open(INTS, 4, 3);
        due("no longer the same", x.same(INTS, TWIN), 0);
        alike("the new one", row(x, INTS), numbers(4, 0, 0, 0));
        alike("the old one", row(x, TWIN), numbers(4, 10, 20, 30));
    }

    @Sentence(in = "Promise 2",
        says = "0 to 12: a new array of this type with n elements; 13: a new stone of weight n; 14: the label "
            + "n; 15: nothing")
    private static void p02_c_whatFrom0To15() {
        for (int what = 0; what <= 15; what++) {
            CoreBook x = new CoreBook();
            due("open " + what, x.open(0, what, 1), 0);
            due("count", x.count(10), what);
            due("stones", x.count(4), what == 13 ? 1 : 0);
        }
    }

    @Sentence(in = "Promise 2", says = "0 to 24 for an array")
    private static void p02_d_lengthOfAnArray() {
        for (int type = 0; type <= 12; type++) {
            int what = type;
            for (int n : new int[] {0, 1, 23, 24}) {
                CoreBook x = full();
                due("open", x.open(INTS, type, n), 0);
                due("length", x.length(INTS), n);
            }
            for (int n : new int[] {-1, 25, 99, LOW, HIGH}) {
                idle("type " + type + " of " + n, x -> x.open(INTS, what, n), WRONG);
            }
        }
    }

    @Sentence(in = "Promise 2", says = "any int for a stone")
    private static void p02_e_weightOfAStone() {
        for (int n : new int[] {LOW, -1, 0, 25, 100, HIGH}) {
            CoreBook x = full();
            due("open", x.open(INTS, 13, n), 0);
            due("count", x.count(13), 13);
            due("stones", x.count(4), 4);
        }
    }

    @Sentence(in = "Promise 2", says = "0 to 99 for a label")
    private static void p02_f_label() {
        for (int n : new int[] {0, 25, 99}) {
            CoreBook x = full();
            due("open", x.open(INTS, 14, n), 0);
            due("count", x.count(13), 14);
        }
        for (int n : new int[] {-1, 100, LOW, HIGH}) {
            idle("label " + n, x -> x.open(INTS, 14, n), WRONG);
        }
    }

    @Sentence(in = "Promise 2", says = "it does not matter for nothing")
    private static void p02_g_nothing() {
        for (int n : new int[] {0, -1, 25, 100, LOW, HIGH}) {
            CoreBook x = full();
            due("open", x.open(INTS, 15, n), 0);
            due("count", x.count(13), 15);
        }
    }

    @Sentence(in = "Promise 2", says = "UNKNOWN if there is no such column")
    private static void p02_h_unknown() {
        noSuchColumn((x, c) -> x.open(c, 4, 1));
        noSuchColumn((x, c) -> x.open(c, 13, 1));
        noSuchColumn((x, c) -> x.open(c, 15, 1));
    }

    @Sentence(in = "Promise 2", says = "WRONG if what or n is out of range")
    private static void p02_i_wrongWhat() {
        for (int what : new int[] {-1, 16, LOW, HIGH}) {
            for (int n : new int[] {0, 1, 24, 99}) {
                idle("what " + what, x -> x.open(INTS, what, n), WRONG);
            }
        }
    }

    @Sentence(in = "Promise 2", says = "FULL if what is 13 and 60 stones have been made")
    private static void p02_j_the61stStone() {
        CoreBook x = new CoreBook();
        for (int i = 1; i <= 60; i++) {
            due("stone " + i, x.open(i % 10, 13, i), 0);
        }
        due("stones", x.count(4), 60);
        due("stone 61", x.open(0, 13, 61), FULL);
        due("stones", x.count(4), 60);
        for (int n : new int[] {0, LOW, HIGH}) {
            idle("stone 61", SentenceTest::outOfStones, y -> y.open(INTS, 13, n), FULL);
        }
    }

    @Sentence(in = "Promise 2", says = "FULL if what is 13 and 60 stones have been made")
    private static void p02_k_all60StonesMadeMayBeGone() {
        CoreBook x = outOfStones();
        x.open(STONE, 15, 0);
        x.open(STONES, 15, 0);
        x.hand(11, 0);
        x.restore(0);
        due("stone 61", x.open(EMPTY, 13, 1), FULL);
    }

    @Sentence(in = "Promise 2", says = "FULL if what is 13 and 60 stones have been made")
    private static void p02_l_allElseIsPossibleWith60Stones() {
        for (int what = 0; what <= 15; what++) {
            CoreBook x = outOfStones();
            due("open " + what, x.open(INTS, what, 1), what == 13 ? FULL : 0);
        }
    }

    // ======== Promise 3: hang

    @Sentence(in = "Promise 3", says = "Puts into the column to what another column (or the same) holds")
    private static void p03_a_ontoItself() {
        for (int c = 0; c < 10; c++) {
            int column = c;
            idle("column " + c, x -> x.hang(column, column, 0), 0);
        }
    }

    @Sentence(in = "Promise 3", says = "Puts into the column to what another column (or the same) holds")
    private static void p03_b_aCopyOntoItself() {
        CoreBook x = full();
        due("hang", x.hang(INTS, INTS, 1), DONE);
        due("no longer the same", x.same(INTS, TWIN), 0);
        x.write(INTS, 0, 4, 1);
        alike("the copy", row(x, INTS), numbers(4, 1, 20, 30));
        alike("the old one", row(x, TWIN), numbers(4, 10, 20, 30));
    }

    @Sentence(in = "Promise 3", says = "the column that gets it, in place of what it held")
    private static void p03_c_inPlaceOfWhateverWasThere() {
        for (int from = 0; from < 10; from++) {
            for (int to = 0; to < 10; to++) {
                CoreBook x = full();
                int held = x.count(10 + from);
                due("hang", x.hang(from, to, 0), 0);
                due("the column that gets it", x.count(10 + to), held);
                due("the column that has it", x.count(10 + from), held);
                due("same", x.same(from, to), held <= 12 ? 1 : 0);
                x = full();
                due("copy", x.hang(from, to, 1), from == EMPTY ? NOTHING : from <= LABEL ? NO_ROW : DONE);
                due("the column that gets it", x.count(10 + to), from <= LABEL ? full().count(10 + to) : held);
            }
        }
    }

    @Sentence(in = "Promise 3", says = "0: the same array or object (or nothing)")
    private static void p03_d_nothingIsHungToo() {
        CoreBook x = full();
        due("hang", x.hang(EMPTY, INTS, 0), 0);
        due("the column then", x.count(13), 15);
        due("stone", x.hang(STONE, INTS, 0), 0);
        due("the column then", x.count(13), 13);
        due("label", x.hang(LABEL, INTS, 0), 0);
        due("the column then", x.count(13), 14);
        due("empty array", x.hang(NO_INTS, INTS, 0), 0);
        due("the same", x.same(NO_INTS, INTS), 1);
        due("no new stones", x.count(4), 3);
    }

    @Sentence(in = "Promise 3", says = "0: the same array or object (or nothing)")
    private static void p03_e_theSameArrayInAllTenColumns() {
        CoreBook x = new CoreBook();
        x.open(0, 4, 2);
        for (int c = 1; c < 10; c++) {
            x.hang(c - 1, c, 0);
        }
        x.write(9, 1, 4, 6);
        for (int c = 0; c < 10; c++) {
            due("same", x.same(c, 9), 1);
            alike("column " + c, row(x, c), numbers(4, 0, 6));
        }
    }

    @Sentence(in = "Promise 3", says = "1: a new array of the same type with the same elements (the same stones)")
    private static void p03_f_copiesOf0And24Elements() {
        for (int type = 0; type <= 12; type++) {
            for (int n : new int[] {0, 1, 24}) {
                CoreBook x = withRow(type, n);
                due("hang", x.hang(0, 9, 1), DONE);
                due("same", x.same(0, 9), 0);
                alike("type " + type + " of " + n, row(x, 9), row(x, 0));
            }
        }
    }

    @Sentence(in = "Promise 3", says = "1: a new array of the same type with the same elements (the same stones)")
    private static void p03_g_theSameStonesInACopy() {
        CoreBook x = full();
        x.hang(STONES, EMPTY, 1);
        x.take(STONES, 1);
        x.chip(5);
        put(x, EMPTY, 0, 11, 0);
        alike("the copy", row(x, EMPTY), "10[2 11:0#0 9:55#3]");
        alike("the original", row(x, STONES), "10[2 8:40#2 9:55#3]");
        due("no new stones", x.count(4), 3);
    }

    @Sentence(in = "Promise 3",
        says = "if how is 1, the answer to an access to the length of column (which is not counted), and "
            + "nothing is changed if it is not DONE")
    private static void p03_h_noCopyOfWhatIsNoArray() {
        for (int to = 0; to < 10; to++) {
            int c = to;
            idle("nothing", x -> x.hang(EMPTY, c, 1), NOTHING);
            idle("stone", x -> x.hang(STONE, c, 1), NO_ROW);
            idle("label", x -> x.hang(LABEL, c, 1), NO_ROW);
        }
    }

    @Sentence(in = "Promise 3", says = "UNKNOWN if one of the columns does not exist")
    private static void p03_i_unknown() {
        noSuchColumn((x, c) -> x.hang(c, INTS, 0));
        noSuchColumn((x, c) -> x.hang(INTS, c, 0));
        noSuchColumn((x, c) -> x.hang(c, INTS, 1));
        noSuchColumn((x, c) -> x.hang(INTS, c, 1));
        idle("both", x -> x.hang(-1, 10, 0), UNKNOWN);
    }

    @Sentence(in = "Promise 3", says = "WRONG if how is not 0 or 1")
    private static void p03_j_wrongHow() {
        for (int how : new int[] {-1, 2, LOW, HIGH}) {
            idle("how " + how, x -> x.hang(INTS, EMPTY, how), WRONG);
        }
    }

    // ======== Promise 4: same

    @Sentence(in = "Promise 4", says = "Returns 1 if two columns hold one and the same array, else 0")
    private static void p04_a_oneAndTheSameNotOnlyEqual() {
        idle("shared", x -> x.same(INTS, TWIN), 1);
        idle("itself", x -> x.same(INTS, INTS), 1);
        idle("itself, empty", x -> x.same(NO_INTS, NO_INTS), 1);
        idle("an equal one", () -> after(SentenceTest::full, x -> x.hang(INTS, EMPTY, 1)), x -> x.same(INTS, EMPTY), 0);
        idle("two empty ones", () -> after(SentenceTest::full, x -> x.open(EMPTY, 4, 0)), x -> x.same(NO_INTS, EMPTY), 0);
    }

    @Sentence(in = "Promise 4", says = "else 0 (also if one of them holds no array)")
    private static void p04_b_noArrays() {
        Book book = () -> after(SentenceTest::full, x -> x.hang(STONE, BYTES, 0) + x.hang(LABEL, CHARS, 0) + x.open(ANY, 15, 0));
        idle("nothing with itself", book, x -> x.same(EMPTY, EMPTY), 0);
        idle("nothing twice", book, x -> x.same(EMPTY, ANY), 0);
        idle("a stone with itself", book, x -> x.same(STONE, STONE), 0);
        idle("one stone twice", book, x -> x.same(STONE, BYTES), 0);
        idle("a label with itself", book, x -> x.same(LABEL, LABEL), 0);
        idle("one label twice", book, x -> x.same(LABEL, CHARS), 0);
        idle("an array and nothing", book, x -> x.same(INTS, EMPTY), 0);
        idle("nothing and an array", book, x -> x.same(EMPTY, INTS), 0);
        idle("a stone and an array", book, x -> x.same(STONE, INTS), 0);
    }

    @Sentence(in = "Promise 4", says = "UNKNOWN if one of the columns does not exist")
    private static void p04_c_unknown() {
        noSuchColumn((x, c) -> x.same(c, INTS));
        noSuchColumn((x, c) -> x.same(INTS, c));
        noSuchColumn((x, c) -> x.same(EMPTY, c));
        idle("both", x -> x.same(10, 10), UNKNOWN);
    }

    // ======== Promise 5: length

    @Sentence(in = "Promise 5", says = "@return the number of elements")
    private static void p05_a_lengths0To24() {
        for (int type = 0; type <= 12; type++) {
            for (int n = 0; n <= 24; n++) {
                CoreBook x = new CoreBook();
                x.open(0, type, n);
                due("length", x.length(0), n);
                due("counted", x.met(LENGTH, DONE), 1);
            }
        }
    }

    @Sentence(in = "Promise 5", says = "MISS minus the answer if it is not DONE")
    private static void p05_b_missed() {
        missed("nothing", SentenceTest::full, x -> x.length(EMPTY), -11, LENGTH, NOTHING);
        missed("stone", SentenceTest::full, x -> x.length(STONE), -12, LENGTH, NO_ROW);
        missed("label", SentenceTest::full, x -> x.length(LABEL), -12, LENGTH, NO_ROW);
    }

    @Sentence(in = "Promise 5", says = "UNKNOWN if there is no such column")
    private static void p05_c_unknown() {
        noSuchColumn((x, c) -> x.length(c));
    }

    // ======== Promise 6: read

    @Sentence(in = "Promise 6", says = "UNKNOWN if there is no such column")
    private static void p06_a_unknown() {
        noSuchColumn((x, c) -> x.read(c, 0, 4));
        noSuchColumn((x, c) -> x.read(c, -1, 0));
    }

    @Sentence(in = "Promise 6", says = "WRONG if k is not 0 to 7")
    private static void p06_b_wrongK() {
        for (int k : NO_NUMBER_TYPES) {
            for (int cell : new int[] {0, 3, -1}) {
                idle("k " + k, x -> x.read(INTS, cell, k), WRONG);
            }
        }
        for (int k = 0; k < 8; k++) {
            due("k " + k, withRow(k, 1).read(0, 0, k), DONE);
        }
    }

    @Sentence(in = "Promise 6", says = "Reads an element of a column as type k. @return the answer")
    private static void p06_c_theFirstAndTheLastElement() {
        CoreBook x = new CoreBook();
        x.open(0, 4, 24);
        x.write(0, 0, 4, 5);
        x.write(0, 23, 4, 6);
        due("first", x.read(0, 0, 4), DONE);
        due("first", x.glass(), 5);
        due("last", x.read(0, 23, 4), DONE);
        due("last", x.glass(), 6);
        due("after the last", x.read(0, 24, 4), BEYOND);
        due("before the first", x.read(0, -1, 4), BEYOND);
        due("the display stays", x.glass(), 6);
    }

    // ======== Promise 7: glass

    @Sentence(in = "Promise 7", says = "Returns the code of the number that the display shows")
    private static void p07_a_glassOnlyLooks() {
        idle("glass", x -> x.glass(), 20);
        idle("glass at first", CoreBook::new, x -> x.glass(), 0);
    }

    @Sentence(in = "Promise 7", says = "Returns the code of the number that the display shows")
    private static void p07_b_leastAndGreatestCodes() {
        CoreBook x = new CoreBook();
        fill(x, 0, 5, Long.MIN_VALUE, Long.MAX_VALUE);
        x.read(0, 0, 5);
        due("least", x.glass(), Long.MIN_VALUE);
        x.read(0, 1, 5);
        due("greatest", x.glass(), Long.MAX_VALUE);
        x.read(0, 0, 7);
        due("a double below 0", x.glass(), bits((double) Long.MIN_VALUE));
        x.read(0, 0, 6);
        due("a float below 0", x.glass(), bits((float) Long.MIN_VALUE));
    }

    // ======== Promise 8: write

    @Sentence(in = "Promise 8", says = "UNKNOWN if there is no such column")
    private static void p08_a_unknown() {
        noSuchColumn((x, c) -> x.write(c, 0, 4, 9));
        noSuchColumn((x, c) -> x.write(c, -1, 0, 9));
    }

    @Sentence(in = "Promise 8", says = "WRONG if k is not 0 to 7")
    private static void p08_b_wrongK() {
        for (int k : NO_NUMBER_TYPES) {
            for (int cell : new int[] {0, 3, -1}) {
                idle("k " + k, x -> x.write(INTS, cell, k, 9), WRONG);
            }
        }
        for (int k = 0; k < 8; k++) {
            due("k " + k, withRow(k, 1).write(0, 0, k, 1), DONE);
        }
    }

    @Sentence(in = "Promise 8", says = "Writes the number of type k that is made from v into an element of a column")
    private static void p08_c_theFirstAndTheLastElement() {
        CoreBook x = new CoreBook();
        x.open(0, 4, 3);
        due("first", x.write(0, 0, 4, 5), DONE);
        due("last", x.write(0, 2, 4, 6), DONE);
        due("after the last", x.write(0, 3, 4, 7), BEYOND);
        due("before the first", x.write(0, -1, 4, 8), BEYOND);
        alike("the array", row(x, 0), numbers(4, 5, 0, 6));
    }

    @Sentence(in = "Promise 8", says = "Writes the number of type k that is made from v into an element of a column")
    private static void p08_d_writingChangesNeitherDisplayNorHand() {
        CoreBook x = full();
        x.write(INTS, 0, 4, 1L << 32);
        due("display", x.glass(), 20);
        due("hand", x.inHand(2), 3);
        alike("all columns with this array", row(x, TWIN), numbers(4, 0, 20, 30));
    }

    // ======== Promise 9: take

    @Sentence(in = "Promise 9", says = "UNKNOWN if there is no such column")
    private static void p09_a_unknown() {
        noSuchColumn((x, c) -> x.take(c, 0));
        noSuchColumn((x, c) -> x.take(c, -1));
    }

    @Sentence(in = "Promise 9", says = "Takes an element of a column. @return the answer")
    private static void p09_b_theFirstTheLastAndNothing() {
        CoreBook x = full();
        due("first", x.take(ANY, 0), DONE);
        due("first", x.inHand(1), 5);
        due("last, which is nothing", x.take(ANY, 2), DONE);
        due("nothing in the hand", x.inHand(0), 11);
        due("display", x.glass(), 20);
    }

    @Sentence(in = "Promise 9", says = "Takes an element of a column. @return the answer")
    private static void p09_c_refused() {
        missed("nothing", x -> x.take(EMPTY, 0), TAKE, NOTHING);
        missed("stone", x -> x.take(STONE, 0), TAKE, NO_ROW);
        missed("label", x -> x.take(LABEL, 0), TAKE, NO_ROW);
        missed("too large", x -> x.take(STONES, 2), TAKE, BEYOND);
        missed("too small", x -> x.take(STONES, -1), TAKE, BEYOND);
        missed("empty", x -> x.take(NO_INTS, 0), TAKE, BEYOND);
    }

    // ======== Promise 10: lay

    @Sentence(in = "Promise 10", says = "UNKNOWN if there is no such column")
    private static void p10_a_unknown() {
        noSuchColumn((x, c) -> x.lay(c, 0));
        noSuchColumn((x, c) -> x.lay(c, -1));
    }

    @Sentence(in = "Promise 10", says = "Lays what the hand holds into an element of a column. @return the answer")
    private static void p10_b_theFirstAndTheLastElement() {
        CoreBook x = full();
        x.hand(1, 7);
        due("first", x.lay(INTS, 0), DONE);
        due("last", x.lay(INTS, 2), DONE);
        due("after the last", x.lay(INTS, 3), BEYOND);
        due("before the first", x.lay(INTS, -1), BEYOND);
        alike("the array", row(x, TWIN), numbers(4, 7, 20, 7));
        due("display", x.glass(), 20);
    }

    @Sentence(in = "Promise 10", says = "Lays what the hand holds into an element of a column. @return the answer")
    private static void p10_c_refused() {
        missed("nothing", x -> x.lay(EMPTY, 0), LAY, NOTHING);
        missed("stone", x -> x.lay(STONE, 0), LAY, NO_ROW);
        missed("label", x -> x.lay(LABEL, 0), LAY, NO_ROW);
        missed("too large", x -> x.lay(STONES, 2), LAY, BEYOND);
        missed("too small", x -> x.lay(STONES, -1), LAY, BEYOND);
        missed("empty", x -> x.lay(NO_INTS, 0), LAY, BEYOND);
        missed("unfit", x -> x.lay(INTS, 0), LAY, UNFIT);
        missed("a gem among anything", x -> x.lay(ANY, 0), LAY, UNFIT);
    }

    // ======== Promise 11: hand

    @Sentence(in = "Promise 11",
        says = "0 to 7: the number of this type that is made from v; 8: a new stone; 9: a new gem, each with "
            + "the weight (int) v; 10: the label v; 11: nothing")
    private static void p11_a_whatFrom0To11() {
        for (int what = 0; what <= 11; what++) {
            CoreBook x = full();
            due("hand " + what, x.hand(what, 9), 0);
            due("kind", x.inHand(0), what);
            due("number of the stone", x.inHand(2), what == 8 || what == 9 ? 4 : 0);
            due("stones", x.count(4), what == 8 || what == 9 ? 4 : 3);
        }
    }

    @Sentence(in = "Promise 11", says = "each with the weight (int) v")
    private static void p11_b_weightsWrapAround() {
        for (long v : new long[] {0, LOW, HIGH, 1L + HIGH, LOW - 1L, 1L << 32, (1L << 32) - 1, Long.MAX_VALUE, Long.MIN_VALUE}) {
            CoreBook x = full();
            due("stone", x.hand(8, v), 0);
            due("weight", x.inHand(1), (int) v);
            due("gem", x.hand(9, v), 0);
            due("weight", x.inHand(1), (int) v);
        }
    }

    @Sentence(in = "Promise 11", says = "any long; 0 to 99 for a label; it does not matter for nothing")
    private static void p11_c_rangeOfV() {
        long[] far = {-1, 100, LOW, HIGH, 1L << 32, (1L << 32) + 99, Long.MIN_VALUE, Long.MAX_VALUE};
        for (long v : far) {
            for (int what = 0; what <= 11; what++) {
                due("hand " + what + " with " + v, full().hand(what, v), what == 10 ? WRONG : 0);
            }
            CoreBook x = full();
            x.hand(11, v);
            due("nothing", x.inHand(0), 11);
            due("nothing", x.inHand(1), 0);
        }
        for (long v : new long[] {0, 1, 98, 99}) {
            CoreBook x = full();
            due("label", x.hand(10, v), 0);
            due("label", x.inHand(1), v);
        }
    }

    @Sentence(in = "Promise 11", says = "WRONG if what is not 0 to 11, or if v is out of range")
    private static void p11_d_wrong() {
        for (int what : new int[] {-1, 12, 13, LOW, HIGH}) {
            idle("what " + what, x -> x.hand(what, 5), WRONG);
        }
        for (long v : new long[] {-1, 100, 1L << 32, Long.MIN_VALUE, Long.MAX_VALUE}) {
            idle("label " + v, x -> x.hand(10, v), WRONG);
        }
    }

    @Sentence(in = "Promise 11", says = "FULL if what is 8 or 9 and 60 stones have been made")
    private static void p11_e_the61stStone() {
        for (int what = 8; what <= 9; what++) {
            int stone = what;
            CoreBook x = new CoreBook();
            for (int i = 1; i <= 60; i++) {
                due("stone " + i, x.hand(what, i), 0);
                due("its number", x.inHand(2), i);
            }
            due("stone 61", x.hand(what, 61), FULL);
            due("the hand stays", x.inHand(2), 60);
            due("the weight stays", x.inHand(1), 60);
            idle("stone 61", SentenceTest::outOfStones, y -> y.hand(stone, 61), FULL);
        }
        for (int what : new int[] {0, 1, 2, 3, 4, 5, 6, 7, 10, 11}) {
            due("what " + what, outOfStones().hand(what, 5), 0);
        }
    }

    // ======== Promise 12: inHand

    @Sentence(in = "Promise 12",
        says = "0: 0 to 7 for a number of this type, 8 for a stone that is no gem, 9 for a gem, 10 for a "
            + "label, 11 for nothing")
    private static void p12_a_kinds() {
        for (int what = 0; what <= 11; what++) {
            int kind = what;
            idle("kind", () -> after(SentenceTest::full, x -> x.hand(kind, 3)), x -> x.inHand(0), what);
        }
    }

    @Sentence(in = "Promise 12", says = "1: the code of the number, the present weight of the stone, the label, or 0 for nothing")
    private static void p12_b_codesAndWeights() {
        CoreBook x = full();
        due("present weight", x.chip(-60), -10);
        due("present weight", x.inHand(1), -10);
        x.hand(10, 99);
        due("label", x.inHand(1), 99);
        x.hand(11, 99);
        due("nothing", x.inHand(1), 0);
        x.hand(7, -1);
        due("number", x.inHand(1), bits(-0.125));
        x.take(STONES, 1);
        due("present weight, taken again", x.inHand(1), -10);
    }

    @Sentence(in = "Promise 12", says = "2: the number of the stone, 0 if it is none")
    private static void p12_c_numbersOfStones() {
        for (int what = 0; what <= 11; what++) {
            CoreBook x = full();
            x.hand(what, 77);
            due("number", x.inHand(2), what == 8 || what == 9 ? 4 : 0);
        }
        due("number", full().inHand(2), 3);
    }

    @Sentence(in = "Promise 12", says = "WRONG if what is not 0 to 2")
    private static void p12_d_wrong() {
        for (int what : new int[] {-1, 3, LOW, HIGH}) {
            idle("what " + what, x -> x.inHand(what), WRONG);
            idle("what " + what, CoreBook::new, x -> x.inHand(what), WRONG);
        }
    }

    // ======== Promise 13: chip

    @Sentence(in = "Promise 13", says = "Increases the weight of the stone in the hand by n (with overflow)")
    private static void p13_a_overflow() {
        CoreBook x = new CoreBook();
        x.hand(8, HIGH);
        due("one too many", x.chip(1), LOW);
        due("one too few", x.chip(-1), HIGH);
        due("most", x.chip(HIGH), -2);
        due("least", x.chip(LOW), HIGH - 1);
        due("none", x.chip(0), HIGH - 1);
        due("in the hand", x.inHand(1), HIGH - 1);
    }

    @Sentence(in = "Promise 13", says = "@return its weight then")
    private static void p13_b_returnsTheWeightThen() {
        CoreBook x = full();
        due("a gem of 50", x.chip(-50), 0);
        due("also an error code's number", x.chip(STATE), STATE);
        due("it has that weight", x.inHand(1), STATE);
        due("no other stone has", x.take(STONES, 0) + x.inHand(1), 40);
    }

    @Sentence(in = "Promise 13", says = "it is the same stone wherever else it is")
    private static void p13_c_theSameStoneElsewhere() {
        CoreBook x = full();
        x.hang(STONES, EMPTY, 1);
        x.cut(EMPTY, 1, 1);
        x.take(STONES, 1);
        due("chip", x.chip(1), 51);
        alike("in an array", row(x, STONES), "10[2 8:40#2 9:51#3]");
        alike("in the clip", clip(x), "10[1 9:51#3]");
        x.restore(0);
        alike("in an image", row(x, STONES), "10[2 8:40#2 9:51#3]");
    }

    @Sentence(in = "Promise 13", says = "STATE if the hand does not hold a stone")
    private static void p13_d_noStone() {
        for (int what : new int[] {0, 1, 2, 3, 4, 5, 6, 7, 10, 11}) {
            for (int n : new int[] {0, 1, LOW, HIGH}) {
                idle("hand " + what, () -> after(SentenceTest::full, x -> x.hand(what, 3)), x -> x.chip(n), STATE);
            }
        }
        idle("a new notebook", CoreBook::new, x -> x.chip(1), STATE);
        due("a stone", after(SentenceTest::full, x -> x.hand(8, 3)).chip(1), 4);
        due("a gem", after(SentenceTest::full, x -> x.hand(9, 3)).chip(1), 4);
    }

    // ======== Promise 14: cut

    @Sentence(in = "Promise 14",
        says = "the clip becomes a new array of this type with these elements, and the column holds a new "
            + "array of this type with the other ones, in their order (other columns keep the old array)")
    private static void p14_a_atBothEndsAndInTheMiddle() {
        cutOut(0, 1, numbers(4, 10), numbers(4, 20, 30, 40, 50));
        cutOut(4, 1, numbers(4, 50), numbers(4, 10, 20, 30, 40));
        cutOut(1, 3, numbers(4, 20, 30, 40), numbers(4, 10, 50));
        cutOut(0, 4, numbers(4, 10, 20, 30, 40), numbers(4, 50));
    }

    @Sentence(in = "Promise 14", says = "the column holds a new array of this type with the other ones")
    private static void p14_b_allElements() {
        cutOut(0, 5, numbers(4, 10, 20, 30, 40, 50), numbers(4));
        for (int type = 0; type <= 12; type++) {
            CoreBook x = withRow(type, 24);
            due("cut", x.cut(0, 0, 24), DONE);
            due("type", x.count(10), type);
            due("rest", x.length(0), 0);
            due("clip", x.count(2), 24);
            due("type of the clip", x.count(3), type);
        }
    }

    private static void cutOut(int from, int n, String clip, String rest) {
        CoreBook x = full();
        fill(x, INTS, 4, 10, 20, 30, 40, 50);
        x.hang(INTS, TWIN, 0);
        due("cut", x.cut(INTS, from, n), DONE);
        alike("the rest", row(x, INTS), rest);
        alike("the old array", row(x, TWIN), numbers(4, 10, 20, 30, 40, 50));
        due("no longer the same", x.same(INTS, TWIN), 0);
        x.write(INTS, 0, 4, 1);
        alike("the clip", clip(x), clip);
    }

    @Sentence(in = "Promise 14", says = "@return NOTHING or NO_ROW as for an access")
    private static void p14_c_noArray() {
        for (int from : new int[] {0, -1, HIGH}) {
            idle("nothing", x -> x.cut(EMPTY, from, 1), NOTHING);
            idle("stone", x -> x.cut(STONE, from, 1), NO_ROW);
            idle("label", x -> x.cut(LABEL, from, 0), NO_ROW);
        }
    }

    @Sentence(in = "Promise 14", says = "BEYOND if from is negative")
    private static void p14_d_fromIsNegative() {
        for (int from : new int[] {-1, -3, LOW, LOW + 1}) {
            for (int n : new int[] {1, 3, HIGH}) {
                idle("from " + from, x -> x.cut(INTS, from, n), BEYOND);
            }
        }
    }

    @Sentence(in = "Promise 14", says = "n is less than 1")
    private static void p14_e_nIsLessThan1() {
        for (int n : new int[] {0, -1, LOW}) {
            for (int from = 0; from <= 3; from++) {
                int start = from;
                idle("n " + n, x -> x.cut(INTS, start, n), BEYOND);
            }
            idle("n " + n + " of none", x -> x.cut(NO_INTS, 0, n), BEYOND);
        }
    }

    @Sentence(in = "Promise 14", says = "or there are fewer than n elements from there on")
    private static void p14_f_tooFewElements() {
        int[][] beyond = {{0, 4}, {1, 3}, {2, 2}, {3, 1}, {4, 1}, {0, HIGH}, {1, HIGH}, {HIGH, 1}, {HIGH, HIGH}};
        for (int[] part : beyond) {
            idle("from " + part[0] + ", " + part[1], x -> x.cut(INTS, part[0], part[1]), BEYOND);
        }
        idle("an empty array", x -> x.cut(NO_INTS, 0, 1), BEYOND);
        due("just enough", full().cut(INTS, 1, 2), DONE);
        due("just enough", full().cut(INTS, 2, 1), DONE);
    }

    @Sentence(in = "Promise 14", says = "If it is not DONE, nothing changes")
    private static void p14_g_refusedWithoutAClip() {
        idle("no clip yet", SentenceTest::clipless, x -> x.cut(INTS, 3, 1), BEYOND);
        idle("no clip yet", SentenceTest::clipless, x -> x.cut(EMPTY, 0, 1), NOTHING);
        idle("no clip yet", SentenceTest::clipless, x -> x.cut(STONE, 0, 1), NO_ROW);
    }

    @Sentence(in = "Promise 14", says = "UNKNOWN if there is no such column")
    private static void p14_h_unknown() {
        noSuchColumn((x, c) -> x.cut(c, 0, 1));
        noSuchColumn((x, c) -> x.cut(c, -1, 0));
    }

    @Sentence(in = "Promise 14", says = "Cuts n elements, from index from on, out of the array of a column")
    private static void p14_i_cuttingChangesNeitherHandNorDisplay() {
        CoreBook x = full();
        String before = counted(x);
        x.cut(ANY, 0, 2);
        due("display", x.glass(), 20);
        due("hand", x.inHand(2), 3);
        alike("counted", counted(x), before);
    }

    // ======== Promise 15: paste

    @Sentence(in = "Promise 15", says = "with all its elements and, before the one with the index place, those of the clip")
    private static void p15_a_atEachPlace() {
        String[] rows = {numbers(4, 77, 0, 10, 20, 30), numbers(4, 10, 77, 0, 20, 30), numbers(4, 10, 20, 77, 0, 30),
            numbers(4, 10, 20, 30, 77, 0)};
        for (int place = 0; place <= 3; place++) {
            CoreBook x = full();
            due("paste", x.paste(INTS, place), DONE);
            alike("place " + place, row(x, INTS), rows[place]);
            alike("the old array", row(x, TWIN), numbers(4, 10, 20, 30));
            due("no longer the same", x.same(INTS, TWIN), 0);
        }
    }

    @Sentence(in = "Promise 15", says = "the column holds a new array of the same type then")
    private static void p15_b_theTypeOfTheColumnNotOfTheClip() {
        for (int type = 4; type <= 9; type++) {
            CoreBook x = full();
            x.open(0, type, 0);
            x.hang(0, 9, 0);
            due("paste ints", x.paste(0, 0), DONE);
            due("type", x.count(10), type);
            due("type of the clip", x.count(3), 4);
            due("a new array", x.same(0, 9), 0);
            due("the old array", x.length(9), 0);
        }
    }

    @Sentence(in = "Promise 15", says = "0 to the number of elements (the latter: at the end)")
    private static void p15_c_intoAnEmptyArray() {
        CoreBook x = full();
        due("paste", x.paste(NO_INTS, 0), DONE);
        alike("the column", row(x, NO_INTS), numbers(4, 77, 0));
        due("paste too far", full().paste(NO_INTS, 1), BEYOND);
    }

    @Sentence(in = "Promise 15", says = "as if each were taken from the clip and laid there (but the hand does not change)")
    private static void p15_d_convertedAndTheHandStays() {
        CoreBook x = full();
        fill(x, 0, 5, Long.MAX_VALUE, (1L << 24) + 1);
        x.cut(0, 0, 2);
        x.open(0, 6, 1);
        due("paste", x.paste(0, 1), DONE);
        due("hand", x.inHand(2), 3);
        due("display", x.glass(), 20);
        alike("converted", row(x, 0), numbers(6, 0, bits((float) Long.MAX_VALUE), bits((float) ((1L << 24) + 1))));
        alike("the clip is not", clip(x), numbers(5, Long.MAX_VALUE, (1L << 24) + 1));
    }

    @Sentence(in = "Promise 15", says = "as if each were taken from the clip and laid there")
    private static void p15_e_intsOfType8AsLongsAndNothingAsNothing() {
        CoreBook x = full();
        x.open(0, 8, 2);
        put(x, 0, 0, 4, -3);
        x.cut(0, 0, 1);
        x.open(9, 5, 0);
        due("into longs", x.paste(9, 0), DONE);
        alike("longs", row(x, 9), numbers(5, -3));
        x.cut(0, 0, 1);
        due("nothing into longs", x.paste(9, 0), UNFIT);
        x.open(9, 12, 1);
        due("nothing into labels", x.paste(9, 0), DONE);
        alike("labels", row(x, 9), "12[2 11:0#0 11:0#0]");
    }

    @Sentence(in = "Promise 15", says = "The clip stays")
    private static void p15_f_theClipStays() {
        CoreBook x = full();
        x.paste(INTS, 0);
        x.write(INTS, 0, 4, 5);
        x.paste(INTS, 0);
        alike("pasted twice", row(x, INTS), numbers(4, 77, 0, 5, 0, 10, 20, 30));
        due("its length", x.count(2), 2);
        alike("the clip", clip(x), numbers(4, 77, 0));
    }

    @Sentence(in = "Promise 15", says = "Returns NOTHING or NO_ROW as for an access")
    private static void p15_g_noArray() {
        for (int place : new int[] {0, -1, 1, HIGH}) {
            idle("nothing", x -> x.paste(EMPTY, place), NOTHING);
            idle("stone", x -> x.paste(STONE, place), NO_ROW);
            idle("label", x -> x.paste(LABEL, place), NO_ROW);
        }
    }

    @Sentence(in = "Promise 15", says = "BEYOND if place is out of range")
    private static void p15_h_placeOutOfRange() {
        for (int place : new int[] {-1, 4, 24, LOW, HIGH}) {
            idle("place " + place, x -> x.paste(INTS, place), BEYOND);
            idle("place " + place + ", though it is unfit", x -> x.paste(BYTES, place), BEYOND);
        }
        due("the last place", full().paste(INTS, 3), DONE);
    }

    @Sentence(in = "Promise 15",
        says = "UNFIT if an element of the clip cannot be laid there, and then the display shows the index in "
            + "the clip of the first such element, and nothing else changes")
    private static void p15_i_theFirstUnfitElement() {
        for (int first = 0; first <= 3; first++) {
            int unfit = first;
            Book book = () -> after(SentenceTest::full, x -> clipUnfitFrom(x, unfit));
            CoreBook x = book.make();
            due("paste", x.paste(INTS, 0), first < 3 ? UNFIT : DONE);
            due("display", x.glass(), first < 3 ? first : 20);
            if (first < 3) {
                Book shown = () -> after(book, y -> y.write(BYTES, 0, 1, unfit) + y.read(BYTES, 0, 1) + y.write(BYTES, 0, 1, 1));
                alike("nothing else changes", seen(book, y -> y.paste(INTS, 0)), seen(shown, y -> 0));
                alike("nothing is counted", counted(after(book, y -> y.paste(INTS, 0))), counted(book.make()));
            }
        }
    }

    /** Makes a clip of three things whose elements from this index on are no ints. */
    private static long clipUnfitFrom(CoreBook x, int first) {
        x.open(0, 9, 3);
        for (int i = 0; i < first; i++) {
            put(x, 0, i, 4, 6 + i);
        }
        x.cut(0, 0, 3);
        return x.open(0, 15, 0);
    }

    @Sentence(in = "Promise 15", says = "UNKNOWN if there is no such column")
    private static void p15_j_unknown() {
        noSuchColumn((x, c) -> x.paste(c, 0));
        noSuchColumn((x, c) -> x.paste(c, -1));
    }

    @Sentence(in = "Promise 15", says = "STATE if there is no clip")
    private static void p15_k_noClip() {
        for (int c : new int[] {EMPTY, STONE, LABEL, INTS, NO_INTS}) {
            for (int place : new int[] {0, -1, 25}) {
                idle("column " + c, SentenceTest::clipless, x -> x.paste(c, place), STATE);
            }
        }
    }

    @Sentence(in = "Promise 15",
        says = "FULL if the column holds an array that would have more than 24 elements (whatever place is)")
    private static void p15_l_25Elements() {
        for (int n = 21; n <= 24; n++) {
            int size = n;
            Book book = () -> after(SentenceTest::full, x -> x.open(0, 4, size));
            if (n <= 22) {
                due(n + " and 2", book.make().paste(0, n), DONE);
                due("length", after(book, x -> x.paste(0, size)).length(0), n + 2);
                continue;
            }
            for (int place : new int[] {0, n, -1, 25, LOW, HIGH}) {
                due(n + " and 2 at " + place, book.make().paste(0, place), FULL);
            }
            idle(n + " and 2", book, x -> x.paste(0, 0), FULL);
        }
    }

    @Sentence(in = "Promise 15",
        says = "FULL if the column holds an array that would have more than 24 elements (whatever place is)")
    private static void p15_m_fullThoughUnfitAndAClipOf24() {
        CoreBook x = full();
        x.open(0, 12, 24);
        x.cut(0, 0, 24);
        due("unfit, too", x.paste(INTS, 0), FULL);
        due("display", x.glass(), 20);
        due("24 into none", x.paste(0, 0), DONE);
        due("length", x.length(0), 24);
        due("24 more", x.paste(0, 24), FULL);
        x.open(0, 12, 1);
        due("24 into one", x.paste(0, 0), FULL);
        due("no array", x.paste(STONE, 0), NO_ROW);
        x.open(0, 15, 0);
        due("nothing", x.paste(0, 0), NOTHING);
    }

    // ======== Promise 16: turn

    @Sentence(in = "Promise 16", says = "the column holds a new array of this type then (also if it is the type that it had)")
    private static void p16_a_intoTheTypeThatItHad() {
        for (int type = 0; type <= 12; type++) {
            CoreBook x = withRow(type, 2);
            x.hang(0, 9, 0);
            due("turn", x.turn(0, type), DONE);
            due("a new array", x.same(0, 9), 0);
            alike("with the same elements", row(x, 0), row(x, 9));
        }
        CoreBook x = full();
        x.turn(INTS, 4);
        x.write(INTS, 0, 4, 1);
        alike("the old array", row(x, TWIN), numbers(4, 10, 20, 30));
    }

    @Sentence(in = "Promise 16",
        says = "with the same elements, as if each were taken and laid there (but the hand does not change)")
    private static void p16_b_convertedAndTheHandStays() {
        CoreBook x = full();
        fill(x, 0, 5, Long.MIN_VALUE, Long.MAX_VALUE, (1L << 24) + 1);
        due("turn", x.turn(0, 6), DONE);
        due("hand", x.inHand(2), 3);
        due("display", x.glass(), 20);
        alike("floats", row(x, 0),
            numbers(6, bits((float) Long.MIN_VALUE), bits((float) Long.MAX_VALUE), bits((float) ((1L << 24) + 1))));
        x.turn(0, 9);
        due("type", x.count(10), 9);
        x.take(0, 0);
        due("its own type", x.inHand(0), 6);
        due("and back", x.turn(0, 6), DONE);
    }

    @Sentence(in = "Promise 16", says = "with the same elements, as if each were taken and laid there")
    private static void p16_c_anEmptyArrayIntoEachType() {
        for (int from = 0; from <= 12; from++) {
            for (int to = 0; to <= 12; to++) {
                CoreBook x = withRow(from, 0);
                due(from + " to " + to, x.turn(0, to), DONE);
                due("type", x.count(10), to);
                due("length", x.length(0), 0);
                due("display", x.glass(), 20);
            }
        }
    }

    @Sentence(in = "Promise 16", says = "with the same elements, as if each were taken and laid there")
    private static void p16_d_arraysOf24FromEachTypeToEachType() {
        String[] homes = {"0 9", "1 3 4 5 6 7 9", "2 4 5 6 7 9", "3 4 5 6 7 9", "4 5 6 7 8 9", "5 6 7 9", "6 7 9", "7 9",
            "8 9 10 11 12", "8 9 10 11 12", "8 9 10 11 12", "8 9 10 11 12", "8 9 10 11 12"};
        for (int from = 0; from <= 12; from++) {
            for (int to = 0; to <= 12; to++) {
                boolean can = (" " + homes[from] + " ").contains(" " + to + " ");
                CoreBook x = withRow(from, 24);
                due(from + " to " + to, x.turn(0, to), can ? DONE : UNFIT);
                due("type then", x.count(10), can ? to : from);
                due("display", x.glass(), can ? 20 : 0);
            }
        }
    }

    @Sentence(in = "Promise 16", says = "@return NOTHING or NO_ROW as for an access")
    private static void p16_e_noArray() {
        for (int kind = 0; kind <= 12; kind++) {
            int type = kind;
            idle("nothing", x -> x.turn(EMPTY, type), NOTHING);
            idle("stone", x -> x.turn(STONE, type), NO_ROW);
            idle("label", x -> x.turn(LABEL, type), NO_ROW);
        }
    }

    @Sentence(in = "Promise 16",
        says = "UNFIT if an element cannot be laid there, and then the display shows the index of the first "
            + "such element, and nothing else changes")
    private static void p16_f_theFirstUnfitElement() {
        for (int first = 0; first <= 3; first++) {
            int unfit = first;
            Book book = () -> after(SentenceTest::full, x -> anyUnfitFrom(x, unfit));
            CoreBook x = book.make();
            due("turn", x.turn(ANY, 5), first < 3 ? UNFIT : DONE);
            due("display", x.glass(), first < 3 ? first : 20);
            if (first < 3) {
                Book shown = () -> after(book, y -> y.write(BYTES, 0, 1, unfit) + y.read(BYTES, 0, 1) + y.write(BYTES, 0, 1, 1));
                alike("nothing else changes", seen(book, y -> y.turn(ANY, 5)), seen(shown, y -> 0));
                alike("nothing is counted", counted(after(book, y -> y.turn(ANY, 5))), counted(book.make()));
            }
        }
    }

    /** Makes an array of three things whose elements from this index on are labels. */
    private static long anyUnfitFrom(CoreBook x, int first) {
        x.open(ANY, 9, 3);
        for (int i = 0; i < 3; i++) {
            put(x, ANY, i, i < first ? 3 : 10, 6 + i);
        }
        return x.hand(9, 1);
    }

    @Sentence(in = "Promise 16", says = "UNKNOWN if there is no such column")
    private static void p16_g_unknown() {
        noSuchColumn((x, c) -> x.turn(c, 4));
        noSuchColumn((x, c) -> x.turn(c, 0));
    }

    @Sentence(in = "Promise 16", says = "WRONG if kind is out of range")
    private static void p16_h_wrongKind() {
        for (int kind : new int[] {-1, 13, 32, LOW, HIGH}) {
            idle("kind " + kind, x -> x.turn(INTS, kind), WRONG);
            idle("kind " + kind, x -> x.turn(NO_INTS, kind), WRONG);
        }
        due("kind 0", full().turn(NO_INTS, 0), DONE);
        due("kind 12", full().turn(NO_INTS, 12), DONE);
    }

    // ======== Promise 17: fits

    @Sentence(in = "Promise 17",
        says = "Returns the set of all types, as a bit mask with the bits 0 to 12, for which turn() would "
            + "return DONE")
    private static void p17_a_asTurnWould() {
        for (int kind = 0; kind <= 11; kind++) {
            for (int home = 0; home <= 12; home++) {
                int what = kind;
                int type = home;
                Book book = () -> {
                    CoreBook x = full();
                    x.open(0, type, 2);
                    put(x, 0, 1, what, 5);
                    return x;
                };
                int set = 0;
                for (int to = 0; to <= 12; to++) {
                    set |= book.make().turn(0, to) == DONE ? 1 << to : 0;
                }
                due("kind " + kind + " in type " + home, book.make().fits(0), set);
            }
        }
        idle("ints", x -> x.fits(INTS), 0b0_0011_1111_0000);
        idle("a stone and a gem", x -> x.fits(STONES), 0b0_0100_0000_0000);
    }

    @Sentence(in = "Promise 17",
        says = "Returns the set of all types, as a bit mask with the bits 0 to 12, for which turn() would "
            + "return DONE")
    private static void p17_b_allTypesForAnEmptyArrayAndNoneForNoType() {
        for (int type = 0; type <= 12; type++) {
            due("empty", withRow(type, 0).fits(0), 8191);
        }
        CoreBook x = full();
        x.open(0, 9, 2);
        put(x, 0, 0, 0, 1);
        put(x, 0, 1, 10, 1);
        due("a boolean and a label", x.fits(0), 1 << 9);
        put(x, 0, 1, 11, 1);
        due("a boolean and nothing", x.fits(0), 1 << 9);
    }

    @Sentence(in = "Promise 17", says = "0 if the column holds no array")
    private static void p17_c_noArray() {
        idle("nothing", x -> x.fits(EMPTY), 0);
        idle("stone", x -> x.fits(STONE), 0);
        idle("label", x -> x.fits(LABEL), 0);
    }

    @Sentence(in = "Promise 17", says = "UNKNOWN if there is no such column")
    private static void p17_d_unknown() {
        noSuchColumn((x, c) -> x.fits(c));
    }

    // ======== Promise 18: pour

    @Sentence(in = "Promise 18",
        says = "Copies elements one after another, from index cell of a column on, to another column (or the "
            + "same), from index place on")
    private static void p18_a_withinOneColumn() {
        for (int k : new int[] {4, 8}) {
            CoreBook x = full();
            due("forward", x.pour(INTS, 0, INTS, 1, k), 2);
            due("kept", x.count(0), BEYOND);
            alike("the first is spread", row(x, INTS), numbers(4, 10, 10, 10));
            x = full();
            due("backward", x.pour(INTS, 1, INTS, 0, k), 2);
            alike("moved", row(x, TWIN), numbers(4, 20, 30, 30));
            x = full();
            due("onto itself", x.pour(INTS, 0, TWIN, 0, k), 3);
            alike("as it was", row(x, INTS), numbers(4, 10, 20, 30));
        }
    }

    @Sentence(in = "Promise 18", says = "Copies elements one after another, from index cell of a column on")
    private static void p18_b_24Elements() {
        for (int k : new int[] {4, 8}) {
            CoreBook x = full();
            x.open(0, 4, 24);
            x.write(0, 23, 4, 6);
            x.open(9, 4, 24);
            String before = counted(x);
            due("all", x.pour(0, 0, 9, 0, k), 24);
            due("kept", x.count(0), BEYOND);
            due("read and one more", x.met(k, BEYOND), full().met(k, BEYOND) + 1);
            alike("counted before", before.substring(0, 8), "counted ");
            due("written", x.met(k == 8 ? LAY : WRITE_INT, BEYOND), 0);
            x.read(9, 23, 4);
            due("the last", x.glass(), 6);
        }
    }

    @Sentence(in = "Promise 18",
        says = "With k from 0 to 7, each element is read as type k, and then the number that the display shows "
            + "is written as type k")
    private static void p18_c_throughTheDisplay() {
        CoreBook x = full();
        x.open(0, 7, 3);
        due("as floats", x.pour(INTS, 0, 0, 0, 6), 3);
        due("the display", x.glass(), bits(30f));
        due("the hand stays", x.inHand(2), 3);
        due("read", x.met(6, DONE), 3);
        due("written", x.met(WRITE + 6, DONE), 3);
        alike("doubles", row(x, 0), numbers(7, bits(10.0), bits(20.0), bits(30.0)));
        fill(x, 0, 5, (1L << 24) + 1);
        x.open(9, 7, 1);
        due("rounded to float on the way", x.pour(0, 0, 9, 0, 6), 1);
        alike("a double", row(x, 9), numbers(7, bits((double) (float) ((1L << 24) + 1))));
    }

    @Sentence(in = "Promise 18", says = "with k = 8, each is taken, and then laid")
    private static void p18_d_throughTheHand() {
        CoreBook x = full();
        x.open(0, 9, 4);
        due("things", x.pour(ANY, 0, 0, 1, 8), 3);
        due("the hand holds the last, which is nothing", x.inHand(0), 11);
        due("the display stays", x.glass(), 20);
        due("kept", x.count(0), BEYOND);
        alike("the column", row(x, 0), "9[4 11:0#0 4:5#0 10:3#0 11:0#0]");
    }

    @Sentence(in = "Promise 18", says = "This goes on until an answer is not DONE")
    private static void p18_e_untilReadingEnds() {
        poured("nothing", EMPTY, 0, INTS, 0, 4, 0, NOTHING, "4/1");
        poured("stone", STONE, 0, INTS, 0, 4, 0, NO_ROW, "4/2");
        poured("things", ANY, 0, INTS, 0, 4, 0, THINGS, "4/3");
        poured("an empty array", NO_INTS, 0, INTS, 0, 4, 0, BEYOND, "4/4");
        poured("unfit", INTS, 0, BYTES, 0, 1, 0, UNFIT, "1/5");
        poured("nothing taken", EMPTY, 0, INTS, 0, 8, 0, NOTHING, "8/1");
        poured("label taken", LABEL, 0, INTS, 0, 8, 0, NO_ROW, "8/2");
        for (int cell : new int[] {-1, 3, 24, LOW, HIGH}) {
            poured("cell " + cell, INTS, cell, TWIN, 0, 4, 0, BEYOND, "4/4");
            poured("cell " + cell + " taken", INTS, cell, TWIN, 0, 8, 0, BEYOND, "8/4");
        }
    }

    @Sentence(in = "Promise 18", says = "This goes on until an answer is not DONE")
    private static void p18_f_untilWritingEnds() {
        poured("nothing", INTS, 0, EMPTY, 0, 4, 0, NOTHING, "4/0 13/1");
        poured("label", INTS, 0, LABEL, 0, 4, 0, NO_ROW, "4/0 13/2");
        poured("things", INTS, 0, ANY, 0, 4, 0, THINGS, "4/0 13/3");
        poured("an empty array", INTS, 0, NO_INTS, 0, 4, 0, BEYOND, "4/0 13/4");
        poured("unfit", INTS, 0, BYTES, 0, 5, 0, UNFIT, "5/0 14/5");
        poured("nothing laid", INTS, 0, EMPTY, 0, 8, 0, NOTHING, "8/0 17/1");
        poured("stone laid", INTS, 0, STONE, 0, 8, 0, NO_ROW, "8/0 17/2");
        poured("unfit laid", INTS, 0, STONES, 0, 8, 0, UNFIT, "8/0 17/5");
        for (int place : new int[] {-1, 3, 24, LOW, HIGH}) {
            poured("place " + place, INTS, 1, TWIN, place, 4, 0, BEYOND, "4/0 13/4");
            poured("place " + place + " laid", INTS, 1, TWIN, place, 8, 0, BEYOND, "8/0 17/4");
        }
    }

    @Sentence(in = "Promise 18", says = "Returns how many elements were read and written; the last answer is kept (see count())")
    private static void p18_g_howMany() {
        poured("the reading ends", INTS, 1, TWIN, 0, 4, 2, BEYOND, "4/0 13/0 4/0 13/0 4/4");
        poured("the writing ends", INTS, 0, TWIN, 2, 4, 1, BEYOND, "4/0 13/0 4/0 13/4");
        poured("both end", INTS, 2, TWIN, 2, 4, 1, BEYOND, "4/0 13/0 4/4");
        poured("a label does not fit", ANY, 0, INTS, 0, 8, 1, UNFIT, "8/0 17/0 8/0 17/5");
    }

    /** pour() answers this, keeps this answer, and counts these accesses. */
    private static void poured(String what, int column, int cell, int to, int place, int k, int n, int kept, String accesses) {
        CoreBook x = full();
        due(what, x.pour(column, cell, to, place, k), n);
        due(what + ", kept", x.count(0), kept);
        int[][] times = new int[19][6];
        for (String access : accesses.split(" ")) {
            String[] parts = access.split("/");
            times[Integer.parseInt(parts[0])][Integer.parseInt(parts[1])]++;
        }
        CoreBook before = full();
        for (int asker = 0; asker < 19; asker++) {
            for (int answer = 0; answer < 6; answer++) {
                due(what + ", counted " + asker + "/" + answer, x.met(asker, answer),
                    before.met(asker, answer) + times[asker][answer]);
            }
        }
    }

    @Sentence(in = "Promise 18", says = "Returns how many elements were read and written")
    private static void p18_h_whatIsReadButNotWritten() {
        CoreBook x = full();
        due("one, though two were read", x.pour(INTS, 0, TWIN, 2, 4), 1);
        due("the display shows the last that was read", x.glass(), 20);
        alike("one was written", row(x, INTS), numbers(4, 10, 20, 10));
        x = full();
        due("one, though two were taken", x.pour(ANY, 0, INTS, 0, 8), 1);
        due("the hand holds the last that was taken", x.inHand(0), 10);
        due("the hand holds the last that was taken", x.inHand(1), 3);
        alike("one was laid", row(x, INTS), numbers(4, 5, 20, 30));
    }

    @Sentence(in = "Promise 18", says = "UNKNOWN if one of the columns does not exist")
    private static void p18_i_unknown() {
        noSuchColumn((x, c) -> x.pour(c, 0, INTS, 0, 4));
        noSuchColumn((x, c) -> x.pour(INTS, 0, c, 0, 8));
        noSuchColumn((x, c) -> x.pour(EMPTY, -1, c, -1, 0));
    }

    @Sentence(in = "Promise 18", says = "WRONG if k is out of range")
    private static void p18_j_wrongK() {
        for (int k : new int[] {-1, 9, 16, LOW, HIGH}) {
            idle("k " + k, x -> x.pour(INTS, 0, TWIN, 0, k), WRONG);
            idle("k " + k, x -> x.pour(EMPTY, 0, STONE, 0, k), WRONG);
        }
        due("k 0", withRow(0, 1).pour(0, 0, 0, 0, 0), 1);
        due("k 7", withRow(7, 1).pour(0, 0, 0, 0, 7), 1);
        due("k 8", withRow(12, 1).pour(0, 0, 0, 0, 8), 1);
    }

    // ======== Promise 19: sum

    @Sentence(in = "Promise 19",
        says = "the elements 0, 1, and so on of a column are read as type k until an answer is not DONE. This "
            + "answer is kept (see count())")
    private static void p19_a_all24AreReadAndOneMore() {
        for (int k = 1; k < 8; k++) {
            CoreBook x = new CoreBook();
            x.open(0, k, 24);
            due("sum", x.sum(0, k), 0);
            alike("counted", counted(x), "counted 2: " + k + "/0*24 " + k + "/4*1");
            due("kept", x.count(0), BEYOND);
        }
    }

    @Sentence(in = "Promise 19", says = "If it is BEYOND, the display shows the sum")
    private static void p19_b_theDisplayShowsTheSumNotTheLastElement() {
        CoreBook x = full();
        due("sum", x.sum(INTS, 4), 0);
        due("display", x.glass(), 60);
        due("unfit", x.sum(INTS, 2), MISS - UNFIT);
        due("the display stays", x.glass(), 60);
    }

    @Sentence(in = "Promise 19", says = "for k from 1 to 5 a long (with overflow)")
    private static void p19_c_longsOverflow() {
        summed(5, Long.MIN_VALUE, 5, Long.MAX_VALUE, 1);
        summed(5, Long.MAX_VALUE, 5, Long.MIN_VALUE, -1);
        summed(5, 0, 5, Long.MIN_VALUE, Long.MIN_VALUE);
    }

    @Sentence(in = "Promise 19", says = "for k from 1 to 5 a long (with overflow)")
    private static void p19_d_smallTypesDoNotOverflow() {
        summed(1, 254, 1, 127, 127);
        summed(1, -256, 1, -128, -128);
        summed(2, 131070, 2, 65535, 65535);
        summed(3, 65534, 3, 32767, 32767);
        summed(4, 4294967294L, 4, HIGH, HIGH);
        summed(4, -4294967296L, 4, LOW, LOW);
    }

    @Sentence(in = "Promise 19",
        says = "for 6 a float, for 7 a double, where each element is added in turn to the sum so far, "
            + "beginning with 0")
    private static void p19_e_floatsAndDoublesInTurn() {
        float big = (1 << 24);
        summed(6, bits((0f + big + 1f) + 1f), 5, 1 << 24, 1, 1);
        summed(6, bits((0f + 1f + 1f) + big), 5, 1, 1, 1 << 24);
        summed(6, bits((0f + big + 0.125f) - big), 6, 1L << 27, 1, -(1L << 27));
        double huge = (1L << 53);
        summed(7, bits((0.0 + huge + 1.0) + 1.0), 5, 1L << 53, 1, 1);
        summed(7, bits((0.0 + 1.0 + 1.0) + huge), 5, 1, 1, 1L << 53);
        summed(7, 0, 7, 5, -5);
        summed(6, 0, 6, 5, -5);
    }

    @Sentence(in = "Promise 19", says = "where each element is added in turn to the sum so far, beginning with 0")
    private static void p19_f_24Elements() {
        long[] values = new long[24];
        Arrays.fill(values, Long.MAX_VALUE);
        float f = 0;
        double d = 0;
        for (int i = 0; i < 24; i++) {
            f += (float) Long.MAX_VALUE;
            d += (double) Long.MAX_VALUE;
        }
        summed(6, bits(f), 5, values);
        summed(7, bits(d), 5, values);
        summed(5, 24 * Long.MAX_VALUE, 5, values);
        Arrays.fill(values, Long.MIN_VALUE);
        summed(6, bits(-f), 5, values);
        summed(7, bits(-d), 5, values);
        Arrays.fill(values, 1);
        values[0] = 1 << 24;
        summed(6, bits((float) (1 << 24)), 5, values);
        summed(7, bits((double) (1 << 24) + 23), 5, values);
    }

    @Sentence(in = "Promise 19", says = "beginning with 0")
    private static void p19_g_emptyArraysOfEachType() {
        for (int type = 0; type < 8; type++) {
            for (int k = 1; k < 8; k++) {
                summed(k, 0, type);
            }
        }
    }

    /** The sum, as type k, of an array of this type with the numbers made from these values. */
    private static void summed(int k, long code, int type, long... values) {
        CoreBook x = full();
        fill(x, 0, type, values);
        due("sum", x.sum(0, k), 0);
        due("display", x.glass(), code);
        due("kept", x.count(0), BEYOND);
        due("hand", x.inHand(2), 3);
        due("read", x.met(k, DONE), full().met(k, DONE) + values.length);
        due("read", x.met(k, BEYOND), full().met(k, BEYOND) + 1);
    }

    @Sentence(in = "Promise 19", says = "otherwise MISS minus the answer")
    private static void p19_h_missed() {
        for (int k = 1; k < 8; k++) {
            int type = k;
            once("nothing", x -> x.sum(EMPTY, type), k, NOTHING);
            once("stone", x -> x.sum(STONE, type), k, NO_ROW);
            once("label", x -> x.sum(LABEL, type), k, NO_ROW);
            once("things", x -> x.sum(ANY, type), k, THINGS);
        }
        once("unfit", x -> x.sum(INTS, 3), 3, UNFIT);
        once("unfit", x -> x.sum(CHARS, 1), 1, UNFIT);
    }

    /** The call makes one reading as type k, keeps its answer, returns MISS minus it, and changes nothing else. */
    private static void once(String what, Call call, int k, int answer) {
        due(what, call.on(full()), MISS - answer);
        CoreBook x = after(SentenceTest::full, call);
        due(what + ", kept", x.count(0), answer);
        due(what + ", counted", x.met(k, answer), full().met(k, answer) + 1);
        due(what + ", counted once", allCounted(x), allCounted(full()) + 1);
        alike(what + " changes nothing else", seen(SentenceTest::full, call).replace("kept " + answer, "kept 4"),
            seen(SentenceTest::full, y -> 0));
    }

    @Sentence(in = "Promise 19", says = "UNKNOWN if there is no such column")
    private static void p19_i_unknown() {
        noSuchColumn((x, c) -> x.sum(c, 4));
    }

    @Sentence(in = "Promise 19", says = "WRONG if k is not 1 to 7")
    private static void p19_j_wrongK() {
        for (int k : new int[] {0, -1, 8, LOW, HIGH}) {
            idle("k " + k, x -> x.sum(INTS, k), WRONG);
            idle("k " + k, x -> x.sum(EMPTY, k), WRONG);
        }
        idle("k 0 of booleans", () -> withRow(0, 1), x -> x.sum(0, 0), WRONG);
        due("k 1", full().sum(BYTES, 1), 0);
        due("k 7", full().sum(BYTES, 7), 0);
    }

    // ======== Promise 20: where

    @Sentence(in = "Promise 20", says = "the pairs become (i, i) for each element i whose number is as asked, in ascending order")
    private static void p20_a_noneOneAndAllOf24() {
        CoreBook x = full();
        x.open(0, 4, 24);
        x.write(0, 0, 4, -5);
        x.write(0, 23, 4, 5);
        due("the first", x.where(0, 4, 0, 0), 1);
        alike("pairs", pairs(x), "1 0-0");
        due("the last", x.where(0, 4, 2, 0), 1);
        alike("pairs", pairs(x), "1 23-23");
        due("all but two", x.where(0, 4, 1, 0), 22);
        due("pair 21", x.pair(21, 1), 22);
        due("all", x.where(0, 4, 0, 6), 24);
        due("pair 23", x.pair(23, 0), 23);
        due("pair 24", x.pair(24, 0), NONE);
        due("none", x.where(0, 4, 2, 5), 0);
        alike("pairs", pairs(x), "0");
    }

    @Sentence(in = "Promise 20", says = "the pairs become (i, i) for each element i whose number is as asked")
    private static void p20_b_anEmptyArray() {
        for (int k = 0; k < 8; k++) {
            CoreBook x = full();
            due("empty", x.where(NO_INTS, k, 1, 0), 0);
            due("pairs", x.count(1), 0);
            due("kept", x.count(0), BEYOND);
            due("display", x.glass(), 20);
        }
    }

    @Sentence(in = "Promise 20", says = "0: less than the number made from v; 1: equal to it; 2: greater")
    private static void p20_c_justBelowAtAndAbove() {
        for (int how = 0; how <= 2; how++) {
            CoreBook x = full();
            fill(x, 0, 5, Long.MIN_VALUE, -1, 0, 1, Long.MAX_VALUE);
            due("0", x.where(0, 5, how, 0), how == 1 ? 1 : 2);
            alike("pairs", pairs(x), how == 0 ? "2 0-0 1-1" : how == 1 ? "1 2-2" : "2 3-3 4-4");
            due("least", x.where(0, 5, how, Long.MIN_VALUE), how == 0 ? 0 : how == 1 ? 1 : 4);
            due("greatest", x.where(0, 5, how, Long.MAX_VALUE), how == 2 ? 0 : how == 1 ? 1 : 4);
        }
    }

    @Sentence(in = "Promise 20", says = "the long from which this number is made: of type 5 if k is 0 to 5, else of type k")
    private static void p20_d_theNumberIsNotNarrowed() {
        CoreBook x = full();
        due("a byte against 257", x.where(BYTES, 1, 1, 257), 0);
        due("a byte against 257", x.where(BYTES, 1, 0, 257), 3);
        due("a byte against 1", x.where(BYTES, 1, 1, 1), 2);
        due("a char against -1", x.where(CHARS, 2, 1, -1), 0);
        due("a char against -1", x.where(CHARS, 2, 2, -1), 1);
        due("an int against 2 to the 32nd and 10", x.where(INTS, 4, 1, (1L << 32) + 10), 0);
        x.open(0, 0, 2);
        x.write(0, 1, 0, 1);
        due("a boolean against 3", x.where(0, 0, 1, 3), 0);
        due("a boolean against 3", x.where(0, 0, 0, 3), 2);
        due("a boolean against 1", x.where(0, 0, 1, 1), 1);
    }

    @Sentence(in = "Promise 20", says = "of type 5 if k is 0 to 5, else of type k")
    private static void p20_e_eighthsForFloatsAndDoubles() {
        CoreBook x = full();
        due("10 as a float", x.where(INTS, 6, 1, 80), 1);
        due("10 as a double", x.where(INTS, 7, 1, 80), 1);
        due("10 as a long", x.where(INTS, 5, 1, 80), 0);
        due("below 10 and an eighth", x.where(INTS, 6, 0, 81), 1);
        due("below 10", x.where(INTS, 7, 0, 80), 0);
        fill(x, 0, 5, (1L << 24) + 1, 1L << 24);
        due("rounded to one float", x.where(0, 6, 1, ((1L << 24) + 1) * 8), 2);
        due("two doubles", x.where(0, 7, 1, ((1L << 24) + 1) * 8), 1);
        fill(x, 0, 6, -1, 0, 1);
        due("below 0", x.where(0, 6, 0, 0), 1);
        alike("pairs", pairs(x), "1 0-0");
    }

    @Sentence(in = "Promise 20",
        says = "the elements 0, 1, and so on of a column are read as type k until an answer is not DONE. This "
            + "answer is kept (see count())")
    private static void p20_f_readAndKept() {
        CoreBook x = full();
        x.where(BYTES, 5, 1, 1);
        due("read", x.met(5, DONE), 3);
        due("read", x.met(5, BEYOND), 1);
        due("kept", x.count(0), BEYOND);
        due("the last number that was read", x.glass(), 1);
        due("the hand", x.inHand(2), 3);
    }

    @Sentence(in = "Promise 20", says = "Returns the number of pairs in this case")
    private static void p20_g_fromNoneTo24() {
        for (int n = 0; n <= 24; n++) {
            CoreBook x = full();
            x.open(0, 4, 24);
            for (int i = 0; i < n; i++) {
                x.write(0, i, 4, 9);
            }
            due("where", x.where(0, 4, 1, 9), n);
            due("pairs", x.count(1), n);
        }
    }

    @Sentence(in = "Promise 20", says = "otherwise MISS minus the answer (the pairs stay then)")
    private static void p20_h_missed() {
        for (int k = 0; k < 8; k++) {
            int type = k;
            once("nothing", x -> x.where(EMPTY, type, 1, 0), k, NOTHING);
            once("stone", x -> x.where(STONE, type, 1, 0), k, NO_ROW);
            once("label", x -> x.where(LABEL, type, 1, 0), k, NO_ROW);
            once("things", x -> x.where(ANY, type, 1, 0), k, THINGS);
        }
        once("unfit", x -> x.where(INTS, 0, 1, 10), 0, UNFIT);
        once("unfit", x -> x.where(INTS, 3, 1, 10), 3, UNFIT);
    }

    @Sentence(in = "Promise 20", says = "UNKNOWN if there is no such column")
    private static void p20_i_unknown() {
        noSuchColumn((x, c) -> x.where(c, 4, 1, 0));
    }

    @Sentence(in = "Promise 20", says = "WRONG if k or how is out of range")
    private static void p20_j_wrong() {
        for (int k : NO_NUMBER_TYPES) {
            idle("k " + k, x -> x.where(INTS, k, 1, 0), WRONG);
            idle("k " + k, x -> x.where(EMPTY, k, 1, 0), WRONG);
        }
        for (int how : new int[] {-1, 3, LOW, HIGH}) {
            idle("how " + how, x -> x.where(INTS, 4, how, 0), WRONG);
            idle("how " + how, x -> x.where(EMPTY, 4, how, 0), WRONG);
        }
        due("k 0", withRow(0, 1).where(0, 0, 0, 1), 1);
        due("k 7", withRow(7, 1).where(0, 7, 2, 0), 1);
    }

    // ======== Promise 21: meet

    @Sentence(in = "Promise 21",
        says = "the elements 0, 1, and so on of a column are read as type k until an answer is not DONE. This "
            + "answer is kept")
    private static void p21_a_bothAreReadToTheirEnds() {
        CoreBook x = new CoreBook();
        x.open(0, 0, 24);
        x.open(1, 0, 1);
        due("meet", x.meet(0, 1, 0), 24);
        alike("counted", counted(x), "counted 2: 0/0*25 0/4*2");
        due("kept", x.count(0), BEYOND);
    }

    @Sentence(in = "Promise 21", says = "by ascending i, and for the same i by ascending j")
    private static void p21_b_order() {
        CoreBook x = full();
        fill(x, 0, 5, 2, 1, 9, 1);
        due("meet", x.meet(BYTES, 0, 5), 5);
        alike("pairs", pairs(x), "5 0-1 0-3 1-0 2-1 2-3");
        due("the other way round", x.meet(0, BYTES, 5), 5);
        alike("pairs", pairs(x), "5 0-1 1-0 1-2 3-0 3-2");
    }

    @Sentence(in = "Promise 21", says = "If it is BEYOND, the same is done with the other column (or the same one)")
    private static void p21_c_withItself() {
        CoreBook x = full();
        due("meet", x.meet(BYTES, BYTES, 1), 5);
        alike("pairs", pairs(x), "5 0-0 0-2 1-1 2-0 2-2");
        due("read twice", x.met(1, DONE), 6);
        due("to the end twice", x.met(1, BEYOND), 2);
    }

    @Sentence(in = "Promise 21",
        says = "If that answer is BEYOND, too, the pairs become (i, j) for all elements i of the first and j "
            + "of the second column whose numbers are equal")
    private static void p21_d_emptyArraysAndNoEqualNumbers() {
        CoreBook x = full();
        due("no equal numbers", x.meet(INTS, BYTES, 4), 0);
        alike("pairs", pairs(x), "0");
        x = full();
        due("the first is empty", x.meet(NO_INTS, INTS, 4), 0);
        alike("pairs", pairs(x), "0");
        due("the last number that was read", x.glass(), 30);
        x = full();
        due("the second is empty", x.meet(INTS, NO_INTS, 4), 0);
        alike("pairs", pairs(x), "0");
        due("the last number that was read", x.glass(), 30);
        x = full();
        due("both are empty", x.meet(NO_INTS, NO_INTS, 0), 0);
        alike("pairs", pairs(x), "0");
        due("the display stays", x.glass(), 20);
        due("kept", x.count(0), BEYOND);
    }

    @Sentence(in = "Promise 21", says = "whose numbers are equal")
    private static void p21_e_equalOnlyAsTheTypeThatIsRead() {
        CoreBook x = full();
        fill(x, 0, 5, (1L << 24) + 1, (1L << 53) + 1);
        fill(x, 9, 5, 1L << 24, 1L << 53);
        due("as longs", x.meet(0, 9, 5), 0);
        due("as floats", x.meet(0, 9, 6), 2);
        alike("pairs", pairs(x), "2 0-0 1-1");
        due("as doubles", x.meet(0, 9, 7), 1);
        alike("pairs", pairs(x), "1 1-1");
        fill(x, 0, 1, -1);
        fill(x, 9, 2, -1);
        due("a byte and a char", x.meet(0, 9, 4), 0);
    }

    @Sentence(in = "Promise 21", says = "MISS minus the answer if one of both answers is not BEYOND (the pairs stay then)")
    private static void p21_f_theFirstIsMissed() {
        for (int other : new int[] {EMPTY, STONE, ANY, BYTES, INTS}) {
            once("nothing", x -> x.meet(EMPTY, other, 5), 5, NOTHING);
            once("stone", x -> x.meet(STONE, other, 5), 5, NO_ROW);
            once("label", x -> x.meet(LABEL, other, 5), 5, NO_ROW);
            once("things", x -> x.meet(ANY, other, 5), 5, THINGS);
            once("unfit", x -> x.meet(INTS, other, 3), 3, UNFIT);
        }
    }

    @Sentence(in = "Promise 21", says = "MISS minus the answer if one of both answers is not BEYOND (the pairs stay then)")
    private static void p21_g_theSecondIsMissed() {
        int[] others = {EMPTY, STONE, LABEL, ANY, INTS};
        int[] answers = {NOTHING, NO_ROW, NO_ROW, THINGS, UNFIT};
        for (int i = 0; i < others.length; i++) {
            CoreBook x = full();
            String pairs = pairs(x);
            due("meet", x.meet(BYTES, others[i], 1), MISS - answers[i]);
            due("kept", x.count(0), answers[i]);
            alike("pairs", pairs(x), pairs);
            due("the first was read", x.met(1, DONE), 3);
            due("the first was read", x.met(1, BEYOND), 1);
            due("the second was tried", x.met(1, answers[i]), 1);
            due("the last number that was read", x.glass(), 1);
        }
        CoreBook x = full();
        due("an empty first one", x.meet(NO_INTS, INTS, 3), MISS - UNFIT);
        due("the display stays", x.glass(), 20);
    }

    @Sentence(in = "Promise 21", says = "UNKNOWN if one of the columns does not exist")
    private static void p21_h_unknown() {
        noSuchColumn((x, c) -> x.meet(c, INTS, 4));
        noSuchColumn((x, c) -> x.meet(INTS, c, 4));
        noSuchColumn((x, c) -> x.meet(EMPTY, c, 4));
    }

    @Sentence(in = "Promise 21", says = "WRONG if k is out of range")
    private static void p21_i_wrongK() {
        for (int k : NO_NUMBER_TYPES) {
            idle("k " + k, x -> x.meet(INTS, TWIN, k), WRONG);
            idle("k " + k, x -> x.meet(EMPTY, STONE, k), WRONG);
        }
        due("k 0", withRow(0, 1).meet(0, 0, 0), 1);
        due("k 7", withRow(7, 1).meet(0, 0, 7), 1);
    }

    @Sentence(in = "Promise 21", says = "FULL if there would be more than 24 pairs")
    private static void p21_j_24And25Pairs() {
        int[][] sizes = {{1, 24}, {24, 1}, {4, 6}, {6, 4}, {3, 8}, {2, 12}, {5, 5}, {2, 13}, {13, 2}, {24, 24}, {4, 7}};
        for (int[] size : sizes) {
            CoreBook x = full();
            x.open(0, 4, size[0]);
            x.open(9, 2, size[1]);
            int n = size[0] * size[1];
            due(size[0] + " times " + size[1], x.meet(0, 9, 4), n <= 24 ? n : FULL);
            due("pairs", x.count(1), n <= 24 ? n : 3);
        }
        CoreBook x = full();
        x.open(0, 4, 24);
        x.open(9, 4, 1);
        x.meet(0, 9, 4);
        due("the last of 24", x.pair(23, 0), 23);
        x.meet(9, 0, 4);
        due("the last of 24", x.pair(23, 1), 23);
    }

    @Sentence(in = "Promise 21",
        says = "FULL if there would be more than 24 pairs: the pairs stay then, but the readings are counted, "
            + "the last answer is kept, and the display shows the last number that was read")
    private static void p21_k_fullButCounted() {
        CoreBook x = full();
        x.open(0, 1, 5);
        fill(x, 9, 3, 0, 0, 0, 0, 0, -7);
        x.sum(EMPTY, 4);
        String pairs = pairs(x);
        due("meet", x.meet(0, 9, 7), FULL);
        alike("the pairs stay", pairs(x), pairs);
        due("readings", x.met(7, DONE), 11);
        due("readings", x.met(7, BEYOND), 2);
        due("kept", x.count(0), BEYOND);
        due("display", x.glass(), bits(-7.0));
        due("the hand stays", x.inHand(2), 3);
        due("afterwards", x.meet(INTS, TWIN, 4), 3);
        alike("afterwards", pairs(x), "3 0-0 1-1 2-2");
    }

    // ======== Promise 22: pair

    @Sentence(in = "Promise 22",
        says = "Returns the first index of pair number i (from 0) if what is 0, the second one if what is 1")
    private static void p22_a_theFirstAndTheLastPair() {
        Book book = () -> after(SentenceTest::full, x -> {
            fill(x, 0, 1, 2, 1);
            return x.meet(BYTES, 0, 1);
        });
        idle("pair 0, first", book, x -> x.pair(0, 0), 0);
        idle("pair 0, second", book, x -> x.pair(0, 1), 1);
        idle("pair 1, first", book, x -> x.pair(1, 0), 1);
        idle("pair 1, second", book, x -> x.pair(1, 1), 0);
        idle("pair 2, first", book, x -> x.pair(2, 0), 2);
        idle("pair 2, second", book, x -> x.pair(2, 1), 1);
    }

    @Sentence(in = "Promise 22", says = "NONE if there is no such pair (also if i is negative)")
    private static void p22_b_none() {
        for (int i : new int[] {3, 4, 23, 24, -1, LOW, HIGH}) {
            idle("pair " + i, x -> x.pair(i, 0), NONE);
            idle("pair " + i, x -> x.pair(i, 1), NONE);
        }
        CoreBook x = full();
        x.where(INTS, 4, 1, 10);
        due("fewer pairs than before", x.pair(1, 0), NONE);
        due("a new notebook", new CoreBook().pair(0, 1), NONE);
    }

    @Sentence(in = "Promise 22", says = "WRONG if what is not 0 or 1")
    private static void p22_c_wrong() {
        for (int what : new int[] {-1, 2, LOW, HIGH}) {
            for (int i : new int[] {0, 3, -1}) {
                idle("what " + what, x -> x.pair(i, what), WRONG);
            }
        }
    }

    // ======== Promise 23: gather

    @Sentence(in = "Promise 23",
        says = "with one element for each pair, in their order: the element of that array whose index is in "
            + "the pair")
    private static void p23_a_noPairsAnd24Pairs() {
        CoreBook x = full();
        x.open(0, 4, 24);
        x.write(0, 23, 4, 9);
        x.where(0, 4, 0, 0);
        due("no pairs", x.gather(INTS, 0, 9), DONE);
        alike("no pairs", row(x, 9), numbers(4));
        due("no pairs of an empty array", x.gather(NO_INTS, 1, 9), DONE);
        due("no pairs of things", x.gather(STONES, 0, 9), DONE);
        alike("no pairs of things", row(x, 9), "10[0]");
        x.where(0, 4, 2, -1);
        due("24 pairs", x.gather(0, 0, 9), DONE);
        due("24 pairs", x.length(9), 24);
        alike("24 pairs", row(x, 9), row(x, 0));
    }

    @Sentence(in = "Promise 23",
        says = "the column to holds a new array then, of the type of the array of another column (or the same "
            + "one)")
    private static void p23_b_ontoItself() {
        CoreBook x = full();
        x.where(INTS, 4, 1, 20);
        due("gather", x.gather(INTS, 0, INTS), DONE);
        alike("the new one", row(x, INTS), numbers(4, 20));
        alike("the old one", row(x, TWIN), numbers(4, 10, 20, 30));
        x = full();
        due("all elements", x.gather(INTS, 0, EMPTY), DONE);
        due("a new array", x.same(INTS, EMPTY), 0);
        x.write(EMPTY, 0, 4, 1);
        alike("the old one", row(x, INTS), numbers(4, 10, 20, 30));
    }

    @Sentence(in = "Promise 23",
        says = "the column to holds a new array then, of the type of the array of another column (or the same "
            + "one)")
    private static void p23_c_ofEachType() {
        for (int type = 0; type <= 12; type++) {
            CoreBook x = withRow(type, 3);
            due("gather", x.gather(0, 1, INTS), DONE);
            due("type", x.count(13), type);
            alike("elements", row(x, INTS), row(x, 0));
            due("hand and display", full().glass(), 20);
        }
    }

    @Sentence(in = "Promise 23", says = "0: the first index of each pair is used; 1: the second one")
    private static void p23_d_sides() {
        CoreBook x = full();
        fill(x, 0, 1, 2, 1);
        x.meet(BYTES, 0, 1);
        due("first", x.gather(INTS, 0, 9), DONE);
        alike("first", row(x, 9), numbers(4, 10, 20, 30));
        due("second", x.gather(INTS, 1, 9), DONE);
        alike("second", row(x, 9), numbers(4, 20, 10, 20));
    }

    @Sentence(in = "Promise 23", says = "Returns NOTHING or NO_ROW as for an access to column")
    private static void p23_e_noArray() {
        for (int to : new int[] {EMPTY, STONE, LABEL, INTS}) {
            for (int side = 0; side <= 1; side++) {
                int s = side;
                idle("nothing", x -> x.gather(EMPTY, s, to), NOTHING);
                idle("stone", x -> x.gather(STONE, s, to), NO_ROW);
                idle("label", x -> x.gather(LABEL, s, to), NO_ROW);
            }
        }
        idle("nothing, without pairs", CoreBook::new, x -> x.gather(0, 0, 1), NOTHING);
    }

    @Sentence(in = "Promise 23", says = "BEYOND if one of these elements does not exist")
    private static void p23_f_beyond() {
        idle("the first pair", x -> x.gather(NO_INTS, 0, EMPTY), BEYOND);
        idle("the second pair", x -> x.gather(CHARS, 0, INTS), BEYOND);
        idle("the last pair", x -> x.gather(STONES, 1, INTS), BEYOND);
        idle("onto itself", x -> x.gather(STONES, 1, STONES), BEYOND);
        CoreBook x = full();
        fill(x, 0, 4, 20, 0, 0, 10);
        x.meet(INTS, 0, 4);
        due("just there", x.gather(STONES, 0, 9), DONE);
        due("only the other side is beyond", x.gather(STONES, 1, 9), BEYOND);
    }

    @Sentence(in = "Promise 23", says = "If it is not DONE, nothing changes")
    private static void p23_g_refusedKeepsTheOldArrayOfTo() {
        for (int to = 0; to < 10; to++) {
            int c = to;
            idle("beyond", x -> x.gather(CHARS, 1, c), BEYOND);
            idle("nothing", x -> x.gather(EMPTY, 1, c), NOTHING);
            idle("no array", x -> x.gather(STONE, 1, c), NO_ROW);
        }
    }

    @Sentence(in = "Promise 23", says = "UNKNOWN if one of the columns does not exist")
    private static void p23_h_unknown() {
        noSuchColumn((x, c) -> x.gather(c, 0, INTS));
        noSuchColumn((x, c) -> x.gather(INTS, 0, c));
        noSuchColumn((x, c) -> x.gather(EMPTY, 1, c));
    }

    @Sentence(in = "Promise 23", says = "WRONG if side is not 0 or 1")
    private static void p23_i_wrongSide() {
        for (int side : new int[] {-1, 2, LOW, HIGH}) {
            idle("side " + side, x -> x.gather(INTS, side, EMPTY), WRONG);
            idle("side " + side, x -> x.gather(EMPTY, side, INTS), WRONG);
        }
    }

    // ======== Promise 24: image

    @Sentence(in = "Promise 24",
        says = "Saves in image 0 or 1 what all columns hold, with the present elements of the arrays, and "
            + "which columns hold the same array")
    private static void p24_a_thePresentElements() {
        for (int k = 0; k <= 1; k++) {
            CoreBook x = full();
            String other = image(full(), 1 - k);
            due("image", x.image(k), 1);
            x.write(INTS, 0, 4, 5);
            put(x, STONES, 0, 11, 0);
            x.open(EMPTY, 9, 24);
            alike("as it was", image(x, k), rows(full()));
            alike("the other image", image(x, 1 - k), other);
        }
    }

    @Sentence(in = "Promise 24", says = "Saves in image 0 or 1 what all columns hold")
    private static void p24_b_onlyNothingAndTenFullArrays() {
        CoreBook x = new CoreBook();
        due("nothing", x.image(1), 1);
        for (int c = 0; c < 10; c++) {
            x.open(c, c, 24);
        }
        due("ten arrays", x.image(0), 1);
        x.restore(1);
        for (int c = 0; c < 10; c++) {
            due("nothing", x.count(10 + c), 15);
        }
        x.restore(0);
        for (int c = 0; c < 10; c++) {
            due("type", x.count(10 + c), c);
            due("length", x.length(c), 24);
        }
    }

    @Sentence(in = "Promise 24", says = "Saves in image 0 or 1 what all columns hold")
    private static void p24_c_inPlaceOfAnOldImage() {
        CoreBook x = full();
        x.write(INTS, 2, 4, 31);
        due("image", x.image(0), 1);
        x.write(INTS, 2, 4, 32);
        due("image", x.image(0), 1);
        x.open(INTS, 15, 0);
        x.restore(0);
        alike("the latest", row(x, INTS), numbers(4, 10, 20, 32));
    }

    @Sentence(in = "Promise 24",
        says = "(not the hand, the display, the clip, the pairs, the weights of stones, or what is counted)")
    private static void p24_d_whatIsNotSaved() {
        CoreBook x = full();
        x.image(0);
        x.chip(5);
        x.hand(10, 7);
        x.cut(BYTES, 0, 1);
        x.where(INTS, 4, 1, 20);
        x.sum(INTS, 5);
        x.sum(STONE, 5);
        String before = counted(x);
        x.restore(0);
        alike("counted", counted(x), before);
        due("hand", x.inHand(1), 7);
        due("display", x.glass(), 60);
        due("clip", x.count(2), 1);
        due("type of the clip", x.count(3), 1);
        alike("pairs", pairs(x), "1 1-1");
        due("kept", x.count(0), NO_ROW);
        due("stones", x.count(4), 3);
        alike("weights", row(x, STONES), "10[2 8:40#2 9:55#3]");
    }

    @Sentence(in = "Promise 24", says = "@return 1; WRONG if k is not 0 or 1")
    private static void p24_e_wrongK() {
        for (int k : new int[] {-1, 2, LOW, HIGH}) {
            idle("k " + k, x -> x.image(k), WRONG);
            idle("k " + k, CoreBook::new, x -> x.image(k), WRONG);
        }
        due("k 0", new CoreBook().image(0), 1);
        due("k 1", new CoreBook().image(1), 1);
    }

    // ======== Promise 25: restore

    @Sentence(in = "Promise 25", says = "Restores what an image has; the image stays")
    private static void p25_a_twiceTheSame() {
        for (int k = 0; k <= 1; k++) {
            String saved = image(full(), k);
            CoreBook x = full();
            for (int round = 0; round < 3; round++) {
                due("restore", x.restore(k), 1);
                x.write(INTS, 0, 4, 5);
                x.open(LABEL, 15, 0);
                put(x, ANY, 0, 11, 0);
            }
            alike("as it was saved", image(x, k), saved);
        }
    }

    @Sentence(in = "Promise 25",
        says = "Columns get new arrays with those elements, the same one where it was the same, and the same "
            + "objects")
    private static void p25_b_theSameOneWhereItWasTheSame() {
        CoreBook x = new CoreBook();
        x.open(0, 4, 1);
        x.hang(0, 9, 0);
        x.hang(0, 5, 1);
        x.hang(5, 4, 0);
        x.image(0);
        x.hang(0, 4, 0);
        x.restore(0);
        due("0 and 9", x.same(0, 9), 1);
        due("4 and 5", x.same(4, 5), 1);
        due("0 and 4", x.same(0, 4), 0);
        x.write(9, 0, 4, 7);
        alike("0", row(x, 0), numbers(4, 7));
        alike("5", row(x, 5), numbers(4, 0));
    }

    @Sentence(in = "Promise 25",
        says = "Columns get new arrays with those elements, the same one where it was the same, and the same "
            + "objects")
    private static void p25_c_allTenColumnsTheSame() {
        CoreBook x = new CoreBook();
        x.open(0, 12, 1);
        for (int c = 1; c < 10; c++) {
            x.hang(0, c, 0);
        }
        x.image(1);
        x.open(3, 4, 1);
        x.restore(1);
        put(x, 9, 0, 10, 8);
        for (int c = 0; c < 10; c++) {
            due("same", x.same(0, c), 1);
            alike("column " + c, row(x, c), "12[1 10:8#0]");
        }
    }

    @Sentence(in = "Promise 25", says = "and the same objects")
    private static void p25_d_theSameStonesAndNoNewOnes() {
        CoreBook x = outOfStones();
        due("restore", x.restore(0), 1);
        alike("stones", row(x, STONES), "10[2 8:40#2 9:50#3]");
        due("in a column", x.count(11), 13);
        due("stones made", x.count(4), 60);
    }

    @Sentence(in = "Promise 25", says = "@return 1; WRONG if k is not 0 or 1")
    private static void p25_e_wrongK() {
        for (int k : new int[] {-1, 2, LOW, HIGH}) {
            idle("k " + k, x -> x.restore(k), WRONG);
            idle("k " + k, CoreBook::new, x -> x.restore(k), WRONG);
        }
    }

    @Sentence(in = "Promise 25", says = "STATE if nothing was saved in it")
    private static void p25_f_notSaved() {
        for (int k = 0; k <= 1; k++) {
            int image = k;
            idle("image " + k, SentenceTest::clipless, x -> x.restore(image), STATE);
            idle("only the other one", () -> after(SentenceTest::clipless, x -> x.image(1 - image)), x -> x.restore(image), STATE);
            due("saved", after(SentenceTest::clipless, x -> x.image(image)).restore(image), 1);
        }
    }

    // ======== Promise 26: met

    @Sentence(in = "Promise 26", says = "Returns how many counted accesses with this number, 0 to 18, had this answer, 0 to 5")
    private static void p26_a_eachNumberWithEachAnswer() {
        for (int asker = 0; asker <= 18; asker++) {
            for (int answer = 0; answer <= 5; answer++) {
                CoreBook x = new CoreBook();
                int made = provoke(x, asker, answer);
                int before = x.met(asker, answer);
                provoke(x, asker, answer);
                due("met " + asker + "/" + answer, x.met(asker, answer), before + made);
                due("kinds", x.count(5) > 0 ? 1 : 0, before > 0 ? 1 : 0);
                due("at first", new CoreBook().met(asker, answer), 0);
            }
        }
    }

    /** Makes an access of this number that has this answer, if there can be one; returns how many were made. */
    private static int provoke(CoreBook x, int asker, int answer) {
        boolean number = asker < 8 || (asker >= WRITE && asker < LAY);
        int type = asker < 8 ? asker : asker - WRITE;
        int unfit = type == 0 ? 4 : 0;
        boolean possible = answer < THINGS || (answer == THINGS && number) || (answer == BEYOND && asker != LENGTH)
            || (answer == UNFIT && (number || asker == LAY));
        if (!possible) {
            return 0;
        }
        int fit = !number ? 4 : answer == UNFIT ? unfit : type;
        int what = answer == NOTHING ? 15 : answer == NO_ROW ? 14 : answer == THINGS ? 12 : fit;
        x.open(0, what, 1);
        x.hand(asker == LAY && answer == UNFIT ? 10 : 4, 1);
        int cell = answer == BEYOND ? 1 : 0;
        if (asker < 8) {
            x.read(0, cell, asker);
        } else if (asker == TAKE) {
            x.take(0, cell);
        } else if (asker < LAY) {
            x.write(0, cell, type, 1);
        } else if (asker == LAY) {
            x.lay(0, cell);
        } else {
            x.length(0);
        }
        return 1;
    }

    @Sentence(in = "Promise 26", says = "Returns how many counted accesses with this number, 0 to 18, had this answer, 0 to 5")
    private static void p26_b_lookingCountsNothing() {
        idle("met", x -> x.met(READ_INT, BEYOND), 2);
        idle("met", x -> x.met(18, 5), 0);
        idle("met", x -> x.met(0, 0), 0);
    }

    @Sentence(in = "Promise 26", says = "WRONG if asker or answer is out of range")
    private static void p26_c_wrong() {
        for (int asker : new int[] {-1, 19, LOW, HIGH}) {
            idle("asker " + asker, x -> x.met(asker, 0), WRONG);
            idle("asker " + asker, x -> x.met(asker, 6), WRONG);
        }
        for (int answer : new int[] {-1, 6, LOW, HIGH}) {
            idle("answer " + answer, x -> x.met(0, answer), WRONG);
            idle("answer " + answer, x -> x.met(18, answer), WRONG);
            idle("answer " + answer, x -> x.met(4, answer), WRONG);
        }
    }

    // ======== Promise 27: count

    @Sentence(in = "Promise 27",
        says = "what = 0: the answer that pour(), sum(), where() or meet() kept last, NONE if there was none")
    private static void p27_a_theAnswerKeptLast() {
        CoreBook x = clipless();
        due("none", x.count(0), NONE);
        x.read(EMPTY, 0, 4);
        x.take(INTS, 9);
        x.length(STONE);
        due("others keep none", x.count(0), NONE);
        x.sum(10, 4);
        x.where(INTS, 4, 3, 1);
        x.meet(INTS, -1, 4);
        x.pour(INTS, 0, INTS, 0, 9);
        due("errors keep none", x.count(0), NONE);
        x.pour(EMPTY, 0, INTS, 0, 4);
        due("pour", x.count(0), NOTHING);
        x.sum(STONE, 4);
        due("sum", x.count(0), NO_ROW);
        x.where(INTS, 0, 1, 1);
        due("where", x.count(0), UNFIT);
        x.meet(INTS, INTS, 4);
        due("meet", x.count(0), BEYOND);
    }

    @Sentence(in = "Promise 27", says = "1: the number of pairs")
    private static void p27_b_pairs() {
        idle("pairs", x -> x.count(1), 3);
        idle("no pairs", CoreBook::new, x -> x.count(1), 0);
        due("24 pairs", after(() -> withRow(4, 24), x -> x.where(0, 4, 2, 0)).count(1), 24);
        due("no more pairs", after(SentenceTest::full, x -> x.where(INTS, 4, 2, 30)).count(1), 0);
    }

    @Sentence(in = "Promise 27", says = "2: the number of elements of the clip, NONE if there is no clip")
    private static void p27_c_elementsOfTheClip() {
        idle("no clip", SentenceTest::clipless, x -> x.count(2), NONE);
        idle("two", x -> x.count(2), 2);
        due("one", after(SentenceTest::full, x -> x.cut(INTS, 0, 1)).count(2), 1);
        due("24", after(() -> withRow(9, 24), x -> x.cut(0, 0, 24)).count(2), 24);
    }

    @Sentence(in = "Promise 27", says = "3: the type of the clip, NONE likewise")
    private static void p27_d_typeOfTheClip() {
        idle("no clip", SentenceTest::clipless, x -> x.count(3), NONE);
        for (int type = 0; type <= 12; type++) {
            int kind = type;
            due("type", after(() -> withRow(kind, 2), x -> x.cut(0, 1, 1)).count(3), type);
        }
    }

    @Sentence(in = "Promise 27", says = "4: how many stones (gems included) have been made")
    private static void p27_e_stones() {
        idle("none", CoreBook::new, x -> x.count(4), 0);
        idle("in a column, in the hand, and a gem", x -> x.count(4), 3);
        idle("60", SentenceTest::outOfStones, x -> x.count(4), 60);
        due("60 and no more", after(SentenceTest::outOfStones, x -> x.hand(9, 1)).count(4), 60);
        CoreBook gone = after(SentenceTest::full, x -> x.open(STONE, 15, 0) + x.open(STONES, 15, 0) + x.hand(11, 0));
        due("also those that are gone", gone.count(4), 3);
    }

    @Sentence(in = "Promise 27",
        says = "5: how many of the 114 pairs of an access number and an answer have been counted at least once")
    private static void p27_f_allKindsThatThereAre() {
        CoreBook x = new CoreBook();
        due("at first", x.count(5), 0);
        int kinds = 0;
        for (int asker = 0; asker <= 18; asker++) {
            for (int answer = 0; answer <= 5; answer++) {
                kinds += provoke(x, asker, answer);
                due("after " + asker + "/" + answer, x.count(5), kinds);
            }
        }
        // 16 accesses to numbers with 6 answers, taking with 4, laying with 5, the length with 3
        due("all", x.count(5), 16 * 6 + 4 + 5 + 3);
        provoke(x, 0, DONE);
        provoke(x, LENGTH, NO_ROW);
        due("once more", x.count(5), 16 * 6 + 4 + 5 + 3);
    }

    @Sentence(in = "Promise 27",
        says = "10 to 19: what the column what - 10 holds: the type, 0 to 12, of an array, 13 for a stone, 14 "
            + "for a label, 15 for nothing")
    private static void p27_g_whatColumnsHold() {
        for (int c = 0; c < 10; c++) {
            for (int what = 0; what <= 15; what++) {
                CoreBook x = new CoreBook();
                x.open(c, what, 2);
                for (int d = 0; d < 10; d++) {
                    due("column " + d, x.count(10 + d), d == c ? what : 15);
                }
            }
        }
    }

    @Sentence(in = "Promise 27", says = "WRONG if what is none of these")
    private static void p27_h_wrong() {
        for (int what : new int[] {-1, 6, 7, 8, 9, 20, 21, LOW, HIGH, LOW + 10}) {
            idle("what " + what, x -> x.count(what), WRONG);
            idle("what " + what, CoreBook::new, x -> x.count(what), WRONG);
        }
    }
}

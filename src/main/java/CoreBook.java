/**
 * A notebook of ten columns that hold arrays of all element types, which are read and written
 * by the rules of widening conversion. The document, DOC.md, says what each call promises.
 */
public final class CoreBook {
    public static final int UNKNOWN = -1, WRONG = -2, STATE = -3, FULL = -4, NONE = -6, MISS = -10;
    public static final int DONE = 0, NOTHING = 1, NO_ROW = 2, THINGS = 3, BEYOND = 4, UNFIT = 5;

    private static final int COLUMNS = 10, LONGEST = 24, MOST_STONES = 60, MOST_PAIRS = 24;
    private static final int LAST_LABEL = 99, IMAGES = 2, ACCESSES = 19, ANSWERS = 6;

    /** The number types, which are the kinds of numbers and the first types of arrays. */
    private static final int BOOLEAN = 0, BYTE = 1, CHAR = 2, SHORT = 3, INT = 4, LONG = 5, FLOAT = 6, DOUBLE = 7;
    private static final int LAST_TYPE = 12, ALL_TYPES = 0x1FFF;

    /** The kinds of things that are no numbers, as hand() and inHand() number them. */
    private static final int STONE = 8, GEM = 9, LABEL = 10, EMPTY = 11;

    /** What a column can hold beside arrays, as open() and count() number it. */
    private static final int STONE_COLUMN = 13, LABEL_COLUMN = 14, EMPTY_COLUMN = 15;

    /** The numbers of the accesses; the first one of writing is that for type 0. */
    private static final int TAKING = 8, WRITING = 9, LAYING = 17, MEASURING = 18;

    /** For each kind of thing, the set of array types whose elements can be it: bit t for type t. */
    private static final int[] HOMES = {
        0b0_0010_0000_0001, // boolean
        0b0_0010_1111_1010, // byte
        0b0_0010_1111_0100, // char
        0b0_0010_1111_1000, // short
        0b0_0011_1111_0000, // int
        0b0_0010_1110_0000, // long
        0b0_0010_1100_0000, // float
        0b0_0010_1000_0000, // double
        0b0_0100_0000_0000, // stone
        0b0_1100_0000_0000, // gem
        0b1_0010_0000_0000, // label
        0b1_1111_0000_0000 // nothing
    };

    private Page page;
    private final Page[] images;
    private Thing shown;
    private Thing held;
    private Row clip;
    private Pairs pairs;
    /** Pairs are found here first, because those that stand must stay if the finding fails. */
    private Pairs draft;
    private final Readings ones;
    private final Readings others;
    private final int[] weights;
    private int stones;
    private final Tally tally;
    private int kept;

    public CoreBook() {
        page = new Page();
        images = new Page[IMAGES];
        shown = new Thing(INT, 0, 0);
        held = new Thing(EMPTY, 0, 0);
        clip = null;
        pairs = new Pairs();
        draft = new Pairs();
        ones = new Readings();
        others = new Readings();
        weights = new int[MOST_STONES];
        stones = 0;
        tally = new Tally();
        kept = NONE;
    }

    // ---- 1 what hangs

    public int open(int column, int what, int n) {
        if (!isColumn(column)) {
            return UNKNOWN;
        }
        if (!canBeOpened(what, n)) {
            return WRONG;
        }
        if (what == STONE_COLUMN && stones >= MOST_STONES) {
            return FULL;
        }
        page.put(column, opened(what, n));
        return DONE;
    }

    public int hang(int column, int to, int how) {
        if (!isColumn(column) || !isColumn(to)) {
            return UNKNOWN;
        }
        if (how != 0 && how != 1) {
            return WRONG;
        }
        Holding holding = page.at(column);
        if (how == 0) {
            page.put(to, holding);
            return DONE;
        }
        if (holding instanceof Row row) {
            page.put(to, row.part(0, row.size()));
        }
        return answerToLength(holding);
    }

    public int same(int one, int other) {
        if (!isColumn(one) || !isColumn(other)) {
            return UNKNOWN;
        }
        Holding holding = page.at(one);
        return holding instanceof Row && holding == page.at(other) ? 1 : 0;
    }

    public int length(int column) {
        if (!isColumn(column)) {
            return UNKNOWN;
        }
        Holding holding = page.at(column);
        int answer = tally.add(MEASURING, answerToLength(holding));
        return holding instanceof Row row ? row.size() : MISS - answer;
    }

    // ---- 2 readers, pens, the hand

    public int read(int column, int cell, int k) {
        if (!isColumn(column)) {
            return UNKNOWN;
        }
        return isNumberType(k) ? accessToRead(column, cell, k) : WRONG;
    }

    public long glass() {
        return shown.code();
    }

    public int write(int column, int cell, int k, long v) {
        if (!isColumn(column)) {
            return UNKNOWN;
        }
        return isNumberType(k) ? accessToWrite(column, cell, Thing.number(k, v)) : WRONG;
    }

    public int take(int column, int cell) {
        return isColumn(column) ? accessToTake(column, cell) : UNKNOWN;
    }

    public int lay(int column, int cell) {
        return isColumn(column) ? accessToLay(column, cell) : UNKNOWN;
    }

    public int hand(int what, long v) {
        if (what < 0 || what > EMPTY || (what == LABEL && !isLabel(v))) {
            return WRONG;
        }
        boolean stone = what == STONE || what == GEM;
        if (stone && stones >= MOST_STONES) {
            return FULL;
        }
        if (stone) {
            held = newStone(what, (int) v);
        } else if (isNumberType(what)) {
            held = Thing.number(what, v);
        } else {
            held = new Thing(what, what == LABEL ? v : 0, 0);
        }
        return DONE;
    }

    public long inHand(int what) {
        switch (what) {
            case 0:
                return held.kind;
            case 1:
                return held.isStone() ? weightOf(held) : held.code();
            case 2:
                return held.isStone() ? held.whole : 0;
            default:
                return WRONG;
        }
    }

    public int chip(int n) {
        if (!held.isStone()) {
            return STATE;
        }
        int i = (int) held.whole - 1;
        if (i >= 0 && i < weights.length) {
            weights[i] += n;
        }
        return weightOf(held);
    }

    // ---- 3 cut, pasted, turned, poured

    public int cut(int column, int from, int n) {
        if (!isColumn(column)) {
            return UNKNOWN;
        }
        Holding holding = page.at(column);
        if (!(holding instanceof Row row)) {
            return answerToLength(holding);
        }
        if (from < 0 || n < 1 || n > row.size() - from) {
            return BEYOND;
        }
        Row rest = new Row(row.type, row.size() - n);
        rest.copy(row, 0, 0, from);
        rest.copy(row, from + n, from, row.size() - n - from);
        clip = row.part(from, n);
        page.put(column, rest);
        return DONE;
    }

    public int paste(int column, int place) {
        if (!isColumn(column)) {
            return UNKNOWN;
        }
        if (clip == null) {
            return STATE;
        }
        Holding holding = page.at(column);
        if (!(holding instanceof Row row)) {
            return answerToLength(holding);
        }
        if (row.size() + clip.size() > LONGEST) {
            return FULL;
        }
        if (place < 0 || place > row.size()) {
            return BEYOND;
        }
        int unfit = clip.firstUnfit(row.type);
        if (unfit < clip.size()) {
            showIndex(unfit);
            return UNFIT;
        }
        Row longer = new Row(row.type, row.size() + clip.size());
        longer.copy(row, 0, 0, place);
        longer.copy(clip, 0, place, clip.size());
        longer.copy(row, place, place + clip.size(), row.size() - place);
        page.put(column, longer);
        return DONE;
    }

    public int turn(int column, int kind) {
        if (!isColumn(column)) {
            return UNKNOWN;
        }
        if (kind < 0 || kind > LAST_TYPE) {
            return WRONG;
        }
        Holding holding = page.at(column);
        if (!(holding instanceof Row row)) {
            return answerToLength(holding);
        }
        int unfit = row.firstUnfit(kind);
        if (unfit < row.size()) {
            showIndex(unfit);
            return UNFIT;
        }
        Row turned = new Row(kind, row.size());
        turned.copy(row, 0, 0, row.size());
        page.put(column, turned);
        return DONE;
    }

    public int fits(int column) {
        if (!isColumn(column)) {
            return UNKNOWN;
        }
        return page.at(column) instanceof Row row ? row.commonHomes() : 0;
    }

    public int pour(int column, int cell, int to, int place, int k) {
        if (!isColumn(column) || !isColumn(to)) {
            return UNKNOWN;
        }
        if (k != TAKING && !isNumberType(k)) {
            return WRONG;
        }
        // A cell and a place that are reached are below LONGEST, so the sums cannot overflow.
        for (int i = 0; i <= LONGEST; i++) {
            kept = k == TAKING ? accessToTake(column, cell + i) : accessToRead(column, cell + i, k);
            if (kept == DONE) {
                kept = k == TAKING ? accessToLay(to, place + i) : accessToWrite(to, place + i, shown);
            }
            if (kept != DONE) {
                return i;
            }
        }
        return LONGEST;
    }

    public int sum(int column, int k) {
        if (!isColumn(column)) {
            return UNKNOWN;
        }
        if (!isNumberType(k) || k == BOOLEAN) {
            return WRONG;
        }
        kept = readAll(column, k, ones);
        if (kept != BEYOND) {
            return MISS - kept;
        }
        shown = ones.total(k);
        return DONE;
    }

    // ---- 4 searched, met, gathered

    public int where(int column, int k, int how, long v) {
        if (!isColumn(column)) {
            return UNKNOWN;
        }
        if (!isNumberType(k) || how < 0 || how > 2) {
            return WRONG;
        }
        kept = readAll(column, k, ones);
        if (kept != BEYOND) {
            return MISS - kept;
        }
        Thing asked = Thing.number(k <= LONG ? LONG : k, v);
        draft.clear();
        for (int i = 0; i < ones.size(); i++) {
            if (ones.at(i).order(asked) == how - 1) {
                draft.add(i, i);
            }
        }
        return adoptDraft();
    }

    public int meet(int column, int other, int k) {
        if (!isColumn(column) || !isColumn(other)) {
            return UNKNOWN;
        }
        if (!isNumberType(k)) {
            return WRONG;
        }
        kept = readAll(column, k, ones);
        if (kept == BEYOND) {
            kept = readAll(other, k, others);
        }
        if (kept != BEYOND) {
            return MISS - kept;
        }
        return draftEqualOnes() ? adoptDraft() : FULL;
    }

    public int pair(int i, int what) {
        if (what != 0 && what != 1) {
            return WRONG;
        }
        return pairs.has(i) ? pairs.index(i, what) : NONE;
    }

    public int gather(int column, int side, int to) {
        if (!isColumn(column) || !isColumn(to)) {
            return UNKNOWN;
        }
        if (side != 0 && side != 1) {
            return WRONG;
        }
        Holding holding = page.at(column);
        if (!(holding instanceof Row row)) {
            return answerToLength(holding);
        }
        Row gathered = new Row(row.type, pairs.size());
        for (int i = 0; i < pairs.size(); i++) {
            int cell = pairs.index(i, side);
            if (!row.has(cell)) {
                return BEYOND;
            }
            gathered.put(i, row.at(cell));
        }
        page.put(to, gathered);
        return DONE;
    }

    // ---- 5 images, counts

    public int image(int k) {
        if (!isImage(k)) {
            return WRONG;
        }
        images[k] = page.twin();
        return 1;
    }

    public int restore(int k) {
        if (!isImage(k)) {
            return WRONG;
        }
        Page saved = images[k];
        if (saved == null) {
            return STATE;
        }
        page = saved.twin();
        return 1;
    }

    public int met(int asker, int answer) {
        if (asker < 0 || asker >= ACCESSES || answer < 0 || answer >= ANSWERS) {
            return WRONG;
        }
        return tally.of(asker, answer);
    }

    public int count(int what) {
        switch (what) {
            case 0:
                return kept;
            case 1:
                return pairs.size();
            case 2:
                return clip == null ? NONE : clip.size();
            case 3:
                return clip == null ? NONE : clip.type;
            case 4:
                return stones;
            case 5:
                return tally.different();
            default:
                return what >= 10 && what < 10 + COLUMNS ? page.at(what - 10).content() : WRONG;
        }
    }

    // ---- what arguments may be

    private static boolean isColumn(int column) {
        return column >= 0 && column < COLUMNS;
    }

    private static boolean isNumberType(int k) {
        return k >= BOOLEAN && k <= DOUBLE;
    }

    private static boolean isLabel(long v) {
        return v >= 0 && v <= LAST_LABEL;
    }

    private static boolean isImage(int k) {
        return k >= 0 && k < IMAGES;
    }

    private static boolean canBeOpened(int what, int n) {
        if (what >= 0 && what <= LAST_TYPE) {
            return n >= 0 && n <= LONGEST;
        }
        return what == STONE_COLUMN || what == EMPTY_COLUMN || (what == LABEL_COLUMN && isLabel(n));
    }

    /** The set of array types whose elements can be a thing of this kind. */
    private static int homesOf(int kind) {
        return kind >= 0 && kind < HOMES.length ? HOMES[kind] : 0;
    }

    /** Whether a thing of this kind can be an element of an array of this type. */
    private static boolean fitsInto(int type, int kind) {
        return (homesOf(kind) >> type & 1) == 1;
    }

    // ---- stones

    private Holding opened(int what, int n) {
        switch (what) {
            case STONE_COLUMN:
                return newStone(STONE, n);
            case LABEL_COLUMN:
                return new Thing(LABEL, n, 0);
            case EMPTY_COLUMN:
                return new Thing(EMPTY, 0, 0);
            default:
                return new Row(what, n);
        }
    }

    private Thing newStone(int kind, int weight) {
        if (stones < weights.length) {
            weights[stones] = weight;
            stones++;
        }
        return new Thing(kind, stones, 0);
    }

    private int weightOf(Thing stone) {
        int i = (int) stone.whole - 1;
        return i >= 0 && i < weights.length ? weights[i] : 0;
    }

    // ---- accesses: the answers, and the accesses that are counted

    private static int answerToLength(Holding holding) {
        if (holding instanceof Row) {
            return DONE;
        }
        return holding.content() == EMPTY_COLUMN ? NOTHING : NO_ROW;
    }

    /** The answer to reading or writing, but for UNFIT. */
    private static int answerToNumber(Holding holding, int cell) {
        if (!(holding instanceof Row row)) {
            return answerToLength(holding);
        }
        if (!isNumberType(row.type)) {
            return THINGS;
        }
        return row.has(cell) ? DONE : BEYOND;
    }

    private int accessToRead(int column, int cell, int k) {
        Holding holding = page.at(column);
        int answer = answerToNumber(holding, cell);
        if (answer == DONE && holding instanceof Row row) {
            if (fitsInto(k, row.type)) {
                shown = row.at(cell).widened(k);
            } else {
                answer = UNFIT;
            }
        }
        return tally.add(k, answer);
    }

    private int accessToWrite(int column, int cell, Thing number) {
        Holding holding = page.at(column);
        int answer = answerToNumber(holding, cell);
        if (answer == DONE && holding instanceof Row row) {
            answer = putIfFit(row, cell, number);
        }
        return tally.add(WRITING + number.kind, answer);
    }

    private int accessToTake(int column, int cell) {
        Holding holding = page.at(column);
        int answer = answerToLength(holding);
        if (holding instanceof Row row) {
            if (row.has(cell)) {
                held = row.at(cell);
            } else {
                answer = BEYOND;
            }
        }
        return tally.add(TAKING, answer);
    }

    private int accessToLay(int column, int cell) {
        Holding holding = page.at(column);
        int answer = answerToLength(holding);
        if (holding instanceof Row row) {
            answer = row.has(cell) ? putIfFit(row, cell, held) : BEYOND;
        }
        return tally.add(LAYING, answer);
    }

    private static int putIfFit(Row row, int cell, Thing thing) {
        if (!fitsInto(row.type, thing.kind)) {
            return UNFIT;
        }
        row.put(cell, thing);
        return DONE;
    }

    /** Reads a column from its element 0 on until an answer is not DONE, and returns that answer. */
    private int readAll(int column, int k, Readings readings) {
        readings.clear();
        int answer = DONE;
        for (int cell = 0; answer == DONE && cell <= LONGEST; cell++) {
            answer = accessToRead(column, cell, k);
            if (answer == DONE) {
                readings.add(shown);
            }
        }
        return answer;
    }

    // ---- the parts of single calls

    private void showIndex(int i) {
        shown = new Thing(INT, i, 0);
    }

    /** Drafts the pairs of equal readings; false if there are too many. */
    private boolean draftEqualOnes() {
        draft.clear();
        for (int i = 0; i < ones.size(); i++) {
            for (int j = 0; j < others.size(); j++) {
                if (ones.at(i).order(others.at(j)) == 0 && !draft.add(i, j)) {
                    return false;
                }
            }
        }
        return true;
    }

    private int adoptDraft() {
        Pairs old = pairs;
        pairs = draft;
        draft = old;
        return pairs.size();
    }

    /** What a column holds: an array (Row), or a single thing (a stone, a label, nothing). */
    private interface Holding {
        /** The number that count() gives to what is held. */
        int content();
    }

    /** A number, a stone, a label or nothing. It never changes, so many places can share it. */
    private static final class Thing implements Holding {
        final int kind;
        /** The number if its type is 0 to 5, the number of the stone, or the label. */
        final long whole;
        /** The number if it is a float or a double; every float is a double, too. */
        final double real;

        Thing(int kind, long whole, double real) {
            this.kind = kind;
            this.whole = whole;
            this.real = real;
        }

        /** The number of this type that is made from v. */
        static Thing number(int kind, long v) {
            switch (kind) {
                case BOOLEAN:
                    return new Thing(kind, v & 1, 0);
                case BYTE:
                    return new Thing(kind, (byte) v, 0);
                case CHAR:
                    return new Thing(kind, (char) v, 0);
                case SHORT:
                    return new Thing(kind, (short) v, 0);
                case INT:
                    return new Thing(kind, (int) v, 0);
                case FLOAT:
                    return new Thing(kind, 0, (float) v / 8);
                case DOUBLE:
                    return new Thing(kind, 0, (double) v / 8);
                default:
                    return new Thing(LONG, v, 0);
            }
        }

        boolean isStone() {
            return kind == STONE || kind == GEM;
        }

        public int content() {
            if (isStone()) {
                return STONE_COLUMN;
            }
            return kind == LABEL ? LABEL_COLUMN : EMPTY_COLUMN;
        }

        /** This number, converted to a type that its own type widens to. */
        Thing widened(int type) {
            if (type == kind) {
                return this;
            }
            if (kind == FLOAT) {
                return new Thing(type, 0, real);
            }
            if (type == FLOAT) {
                return new Thing(type, 0, (float) whole);
            }
            return type == DOUBLE ? new Thing(type, 0, (double) whole) : new Thing(type, whole, 0);
        }

        /** -1, 0 or 1 as this number is less than, equal to or greater than the other one. */
        int order(Thing other) {
            if (kind == FLOAT || kind == DOUBLE) {
                if (real == other.real) {
                    return 0;
                }
                return real < other.real ? -1 : 1;
            }
            return Long.compare(whole, other.whole);
        }

        /** The code of a number; the label; 0 for nothing. */
        long code() {
            if (kind == FLOAT) {
                return bits(real, 23, 127, 31);
            }
            return kind == DOUBLE ? bits(real, 52, 1023, 63) : whole;
        }

        /**
         * The bits of a float or double, put together by hand since LANGUAGE.md has neither
         * floatToIntBits nor doubleToLongBits. All numbers here are multiples of 1/8 below 2 to
         * the 68th, and none is a negative zero: so there are normal numbers and 0 alone.
         */
        private static long bits(double number, int fractionBits, int bias, int signPlace) {
            if (number == 0) {
                return 0;
            }
            double rest = number < 0 ? -number : number;
            int exponent = bias;
            for (int i = 0; i < 1100 && rest >= 2; i++) {
                rest = rest / 2;
                exponent++;
            }
            for (int i = 0; i < 1100 && rest < 1; i++) {
                rest = rest * 2;
                exponent--;
            }
            long fraction = (long) ((rest - 1) * (double) (1L << fractionBits));
            long positive = ((long) exponent << fractionBits) | fraction;
            return number < 0 ? positive | (-1L << signPlace) : positive;
        }
    }

    /** An array. Its elements are things that an array of its type can have. */
    private static final class Row implements Holding {
        final int type;
        private final Thing[] cells;
        private final Thing blank;

        Row(int type, int n) {
            this.type = type;
            blank = new Thing(type <= DOUBLE ? type : EMPTY, 0, 0);
            cells = new Thing[n];
            for (int i = 0; i < n; i++) {
                cells[i] = blank;
            }
        }

        public int content() {
            return type;
        }

        int size() {
            return cells.length;
        }

        boolean has(int cell) {
            return cell >= 0 && cell < cells.length;
        }

        Thing at(int cell) {
            return has(cell) ? cells[cell] : blank;
        }

        void put(int cell, Thing thing) {
            if (has(cell)) {
                cells[cell] = type <= DOUBLE ? thing.widened(type) : thing;
            }
        }

        /** Puts n elements of another array, from an index on, at a place and after it. */
        void copy(Row source, int from, int place, int n) {
            for (int i = 0; i < n; i++) {
                put(place + i, source.at(from + i));
            }
        }

        /** A new array with n of these elements, from an index on. */
        Row part(int from, int n) {
            Row part = new Row(type, n);
            for (int i = 0; i < n; i++) {
                part.cells[i] = at(from + i);
            }
            return part;
        }

        /** The index of the first element that an array of a type cannot have; the size if there is none. */
        int firstUnfit(int target) {
            for (int i = 0; i < cells.length; i++) {
                if (!fitsInto(target, cells[i].kind)) {
                    return i;
                }
            }
            return cells.length;
        }

        /** The set of types that can have every element of this array. */
        int commonHomes() {
            int homes = ALL_TYPES;
            for (int i = 0; i < cells.length; i++) {
                homes &= homesOf(cells[i].kind);
            }
            return homes;
        }
    }

    /** What all columns hold. */
    private static final class Page {
        private final Holding[] columns;

        Page() {
            columns = new Holding[COLUMNS];
            Thing empty = new Thing(EMPTY, 0, 0);
            for (int i = 0; i < COLUMNS; i++) {
                columns[i] = empty;
            }
        }

        Holding at(int column) {
            return columns[column];
        }

        void put(int column, Holding holding) {
            columns[column] = holding;
        }

        /** A page with new arrays, which columns share as they do here. */
        Page twin() {
            Page twin = new Page();
            for (int i = 0; i < COLUMNS; i++) {
                int first = firstWith(columns[i]);
                if (first < i) {
                    twin.columns[i] = twin.columns[first];
                } else if (columns[i] instanceof Row row) {
                    twin.columns[i] = row.part(0, row.size());
                } else {
                    twin.columns[i] = columns[i];
                }
            }
            return twin;
        }

        private int firstWith(Holding holding) {
            for (int i = 0; i < COLUMNS; i++) {
                if (columns[i] == holding) {
                    return i;
                }
            }
            return COLUMNS;
        }
    }

    /** The numbers that one call has read from a column; one object serves all calls. */
    private static final class Readings {
        private final Thing[] numbers;
        private final Thing blank;
        private int size;

        Readings() {
            numbers = new Thing[LONGEST];
            blank = new Thing(EMPTY, 0, 0);
            size = 0;
        }

        void clear() {
            size = 0;
        }

        void add(Thing number) {
            if (size < numbers.length) {
                numbers[size] = number;
                size++;
            }
        }

        int size() {
            return size;
        }

        Thing at(int i) {
            return i >= 0 && i < size ? numbers[i] : blank;
        }

        /** The sum: a long for the types up to 5, else a number of the type that was read. */
        Thing total(int type) {
            long whole = 0;
            double real = 0;
            for (int i = 0; i < size; i++) {
                Thing number = numbers[i];
                whole += number.whole;
                // Floats are added as floats, since each sum so far is rounded to one.
                real = type == FLOAT ? (float) real + (float) number.real : real + number.real;
            }
            return type == FLOAT || type == DOUBLE ? new Thing(type, 0, real) : new Thing(LONG, whole, 0);
        }
    }

    /** A list of pairs of element indices. */
    private static final class Pairs {
        private final int[] firsts;
        private final int[] seconds;
        private int size;

        Pairs() {
            firsts = new int[MOST_PAIRS];
            seconds = new int[MOST_PAIRS];
            size = 0;
        }

        void clear() {
            size = 0;
        }

        /** Adds a pair, if there is room; returns whether there was. */
        boolean add(int first, int second) {
            if (size >= MOST_PAIRS) {
                return false;
            }
            firsts[size] = first;
            seconds[size] = second;
            size++;
            return true;
        }

        int size() {
            return size;
        }

        boolean has(int i) {
            return i >= 0 && i < size;
        }

        int index(int i, int side) {
            if (!has(i)) {
                return NONE;
            }
            return side == 0 ? firsts[i] : seconds[i];
        }
    }

    /** How often each kind of access had which answer. */
    private static final class Tally {
        private final int[] times;

        Tally() {
            times = new int[ACCESSES * ANSWERS];
        }

        /** Counts an access, and returns its answer. */
        int add(int access, int answer) {
            times[access * ANSWERS + answer]++;
            return answer;
        }

        int of(int access, int answer) {
            return times[access * ANSWERS + answer];
        }

        int different() {
            int different = 0;
            for (int i = 0; i < times.length; i++) {
                if (times[i] > 0) {
                    different++;
                }
            }
            return different;
        }
    }
}

import java.util.Arrays;

/** Lays out values by a text with specifiers, or tells the first fault (see README.md). */
public final class SpecifierDesk {

    private static final int DRAFT_MOST = 400;
    private static final int ARGUMENTS_MOST = 12;
    private static final int RESULT_MOST = 4000;
    private static final int CHARACTER_MOST = 126;
    private static final int SCALE_MOST = 400;
    private static final long FRACTION_DIGITS_MOST = 99999999999999999L;
    private static final int REFUSED = -1;

    private static final int NO_SUCH_ARGUMENT = 10;
    private static final int WRONG_KIND = 11;
    private static final int NO_CHARACTER_NUMBER = 12;
    private static final int SIGN_FOR_BITS = 13;
    private static final int RESULT_TOO_LONG = 14;

    private final Row draft;
    private final Row result;
    private final Argument[] arguments;
    private final Specifier specifier;
    private final Composer composer;
    private int argumentCount;
    private int nextNumber;
    private int numberBefore;

    public SpecifierDesk() {
        draft = new Row(DRAFT_MOST);
        result = new Row(RESULT_MOST);
        specifier = new Specifier();
        composer = new Composer(specifier, result);
        arguments = new Argument[ARGUMENTS_MOST];
        for (int i = 0; i < ARGUMENTS_MOST; i++) {
            arguments[i] = new Argument();
        }
    }

    public boolean write(long eight) {
        int added = 0;
        for (int shift = 56; shift >= 0; shift -= 8) {
            int c = (int) (eight >>> shift) & 255;
            if (c > CHARACTER_MOST) {
                return false;
            }
            added += c == 0 ? 0 : 1;
        }
        if (draft.used + added > DRAFT_MOST) {
            return false;
        }
        for (int shift = 56; shift >= 0; shift -= 8) {
            int c = (int) (eight >>> shift) & 255;
            if (c != 0) {
                draft.add(c);
            }
        }
        return true;
    }

    public void clear() {
        draft.empty();
        argumentCount = 0;
    }

    public int nothing() {
        return takeArgument(Kind.NOTHING, false, 0) == null ? REFUSED : argumentCount;
    }

    public int truth(boolean is) {
        return takeArgument(Kind.TRUTH, false, is ? 1 : 0) == null ? REFUSED : argumentCount;
    }

    public int character(int c) {
        if (c < 1 || c > CHARACTER_MOST) {
            return REFUSED;
        }
        return takeArgument(Kind.CHARACTER, false, c) == null ? REFUSED : argumentCount;
    }

    public int whole(long v, int width) {
        if (width != 8 && width != 16 && width != 32 && width != 64) {
            return REFUSED;
        }
        int unused = 64 - width;
        long signed = v << unused >> unused;
        Argument taken = takeArgument(Kind.SHORT_WHOLE, signed < 0, signed < 0 ? -signed : signed);
        if (taken == null) {
            return REFUSED;
        }
        taken.bits = v << unused >>> unused;
        taken.wide = width;
        return argumentCount;
    }

    public int size(boolean minus, long bits) {
        return takeArgument(Kind.LONG_WHOLE, minus, bits) == null ? REFUSED : argumentCount;
    }

    public int more(long bits) {
        Argument latest = latestArgument();
        if (latest == null || latest.kind != Kind.LONG_WHOLE && latest.kind != Kind.DECIMAL) {
            return REFUSED;
        }
        return latest.growBy(bits) ? argumentCount : REFUSED;
    }

    public int scale(int scale) {
        Argument latest = latestArgument();
        if (latest == null || latest.kind != Kind.LONG_WHOLE) {
            return REFUSED;
        }
        if (scale < -SCALE_MOST || scale > SCALE_MOST) {
            return REFUSED;
        }
        latest.kind = Kind.DECIMAL;
        latest.lowest = -scale;
        return argumentCount;
    }

    public int fraction(long bits, long d, int t) {
        if (d < 0 || d > FRACTION_DIGITS_MOST || t < -SCALE_MOST || t > SCALE_MOST) {
            return REFUSED;
        }
        Argument taken = takeArgument(Kind.FRACTION, bits < 0, d);
        if (taken == null) {
            return REFUSED;
        }
        taken.bits = bits;
        taken.lowest = t;
        return argumentCount;
    }

    public int text() {
        Argument taken = takeArgument(Kind.TEXT, false, 0);
        if (taken == null) {
            return REFUSED;
        }
        // A row of the draft's own length: twelve rows of 400 in every object would be dearer.
        taken.letters = new Row(draft.used);
        taken.letters.addRow(draft);
        draft.empty();
        return argumentCount;
    }

    public int layOut() {
        int fault = readAll();
        if (fault != 0) {
            return fault;
        }
        result.empty();
        nextNumber = 1;
        numberBefore = 0;
        for (int at = 0; at < draft.used && fault == 0; at++) {
            int c = draft.at(at);
            if (c == '%') {
                specifier.readFrom(draft, at);
                at = Math.max(at, specifier.last);
                fault = layOutSpecifier();
            } else {
                result.add(c);
            }
            if (fault == 0 && result.burst) {
                fault = RESULT_TOO_LONG;
            }
        }
        if (fault != 0) {
            result.empty();
        }
        return fault;
    }

    public int length() {
        return result.used;
    }

    public int characterAt(int k) {
        return result.at(k);
    }

    /** One argument more, with the lowest 64 bits of its size; null when there is no place left. */
    private Argument takeArgument(Kind kind, boolean minus, long lowestBits) {
        if (argumentCount < 0 || argumentCount >= arguments.length) {
            return null;
        }
        Argument taken = arguments[argumentCount];
        if (taken == null) {
            return null;
        }
        argumentCount++;
        taken.become(kind, minus, lowestBits);
        return taken;
    }

    private Argument latestArgument() {
        return argumentOf(argumentCount);
    }

    private Argument argumentOf(int number) {
        if (number < 1 || number > argumentCount || number > arguments.length) {
            return null;
        }
        return arguments[number - 1];
    }

    private int readAll() {
        for (int at = 0; at < draft.used; at++) {
            if (draft.at(at) == '%') {
                specifier.readFrom(draft, at);
                int fault = specifier.fault();
                if (fault != 0) {
                    return fault;
                }
                at = Math.max(at, specifier.last);
            }
        }
        return 0;
    }

    private int layOutSpecifier() {
        if (specifier.conversion == '%' || specifier.conversion == 'n') {
            composer.layMark(specifier.conversion == 'n' ? '\n' : '%');
            return 0;
        }
        int number = chosenNumber();
        Argument chosen = argumentOf(number);
        if (chosen == null) {
            return NO_SUCH_ARGUMENT;
        }
        numberBefore = number;
        int fault = faultOf(chosen);
        if (fault == 0) {
            composer.layArgument(chosen);
        }
        return fault;
    }

    private int chosenNumber() {
        if (specifier.index == Specifier.BEFORE) {
            return numberBefore;
        }
        if (specifier.index != Specifier.NONE) {
            return specifier.index;
        }
        nextNumber++;
        return nextNumber - 1;
    }

    private int faultOf(Argument chosen) {
        char conversion = specifier.conversion;
        if (!chosen.kind.goesWith(conversion)) {
            return WRONG_KIND;
        }
        if (chosen.kind != Kind.SHORT_WHOLE) {
            return 0;
        }
        if (conversion == 'c') {
            return chosen.wide > 32 ? WRONG_KIND : chosen.isCharacterNumber() ? 0 : NO_CHARACTER_NUMBER;
        }
        if (conversion == 'o' || conversion == 'x') {
            int signFlags = Specifier.PLUS | Specifier.SPACE | Specifier.BRACKET;
            return specifier.hasAny(signFlags) ? SIGN_FOR_BITS : 0;
        }
        return 0;
    }

    /** What an argument can be, with the conversions it goes with. */
    private enum Kind {
        NOTHING("bscdoxefga"),
        TRUTH("bs"),
        CHARACTER("bsc"),
        SHORT_WHOLE("bscdox"),
        LONG_WHOLE("bsdox"),
        DECIMAL("bsefg"),
        FRACTION("bsefga"),
        TEXT("bs");

        private final String conversions;

        Kind(String conversions) {
            this.conversions = conversions;
        }

        boolean goesWith(char conversion) {
            return conversions.indexOf(conversion) >= 0;
        }
    }

    /** Characters in a room of fixed length; burst tells that some did not fit. */
    private static final class Row {
        private final byte[] cells;
        private int used;
        private boolean burst;

        Row(int most) {
            cells = new byte[Math.max(0, most)];
        }

        void empty() {
            used = 0;
            burst = false;
        }

        void add(int c) {
            if (used < 0 || used >= cells.length) {
                burst = true;
                return;
            }
            cells[used] = (byte) c;
            used++;
        }

        void addMany(int c, int times) {
            for (int i = 0; i < times; i++) {
                add(c);
            }
        }

        void addWord(String word) {
            for (int i = 0; i < word.length(); i++) {
                add(word.charAt(i));
            }
        }

        void addRow(Row other) {
            for (int i = 0; i < other.used; i++) {
                add(other.at(i));
            }
        }

        void addNumber(int number, int leastDigits) {
            if (number < 0) {
                add('-');
            }
            int size = Math.abs(number);
            int place = 1;
            for (int digits = 1; digits < 9 && (digits < leastDigits || size / 10 >= place); digits++) {
                place *= 10;
            }
            for (; place > 0; place /= 10) {
                add('0' + size / place % 10);
            }
        }

        void cutTo(int most) {
            if (most >= 0 && most < used) {
                used = most;
            }
        }

        void raiseFrom(int start) {
            for (int i = Math.max(0, start); i < used && i < cells.length; i++) {
                if (cells[i] >= 'a' && cells[i] <= 'z') {
                    cells[i] -= 'a' - 'A';
                }
            }
        }

        int at(int k) {
            return k >= 0 && k < used && k < cells.length ? cells[k] : -1;
        }
    }

    /** One argument; every kind of number keeps the digits of its size in words, the lowest first. */
    private static final class Argument {
        private static final int WORDS = 8;

        private final long[] words = new long[WORDS];
        private Kind kind = Kind.NOTHING;
        private boolean minus;
        private long bits;
        private int wide;
        private int lowest;
        private Row letters;

        void become(Kind newKind, boolean newMinus, long lowestBits) {
            Arrays.fill(words, 0L);
            words[0] = lowestBits;
            kind = newKind;
            minus = newMinus;
            bits = 0;
            wide = 0;
            lowest = 0;
            letters = null;
        }

        boolean growBy(long lowestBits) {
            if (words[WORDS - 1] != 0) {
                return false;
            }
            for (int i = WORDS - 1; i > 0; i--) {
                words[i] = words[i - 1];
            }
            words[0] = lowestBits;
            return true;
        }

        boolean isBelowZero() {
            return minus && (kind == Kind.FRACTION || !isSizeZero());
        }

        boolean isCharacterNumber() {
            return !minus && words[0] >= 1 && words[0] <= CHARACTER_MOST;
        }

        boolean isNoNumber() {
            return isBeyondNumbers() && (bits & Hex.REST_MASK) != 0;
        }

        boolean isBeyondNumbers() {
            return kind == Kind.FRACTION && Hex.exponentBits(bits) == Hex.EXPONENT_MASK;
        }

        private boolean isSizeZero() {
            for (int i = 0; i < WORDS; i++) {
                if (words[i] != 0) {
                    return false;
                }
            }
            return true;
        }
    }

    /** A specifier as it was read from a format. */
    private static final class Specifier {
        private static final int MINUS = 1;
        private static final int SHARP = 2;
        private static final int PLUS = 4;
        private static final int SPACE = 8;
        private static final int ZERO = 16;
        private static final int COMMA = 32;
        private static final int BRACKET = 64;

        private static final int NONE = -1;
        private static final int BEFORE = -2;
        private static final int NUMBER_MOST = 999;

        private static final String SMALL = "bscdoxefga%n";
        private static final String GREAT = "BSCXEGA";
        private static final String NUMERIC = "doxefga";
        private static final String WITHOUT_PRECISION = "%cdox";

        private int index;
        private int flags;
        private int width;
        private int precision;
        private char conversion;
        private boolean great;
        private boolean known;
        private boolean cutOff;
        private boolean flagTwice;
        private int last;

        /** Reads the specifier whose % stands at start. */
        void readFrom(Row format, int start) {
            index = NONE;
            flags = 0;
            width = NONE;
            precision = NONE;
            conversion = 0;
            great = false;
            known = false;
            cutOff = false;
            flagTwice = false;
            int at = readIndex(format, start + 1);
            at = readFlags(format, at);
            at = readWidth(format, at);
            at = readPrecision(format, at);
            readConversion(format, at);
        }

        boolean hasAny(int some) {
            return (flags & some) != 0;
        }

        boolean hasBoth(int one, int other) {
            return hasAny(one) && hasAny(other);
        }

        /** The first fault that reading alone can tell, in the document's order, or 0. */
        int fault() {
            if (cutOff) {
                return 1;
            }
            if (index > NUMBER_MOST || width > NUMBER_MOST || precision > NUMBER_MOST) {
                return 2;
            }
            if (flagTwice) {
                return 3;
            }
            if (!known) {
                return 4;
            }
            return conversion == 'n' ? faultOfLineEnd() : faultOfParts();
        }

        private int faultOfLineEnd() {
            if (width != NONE) {
                return 5;
            }
            if (precision != NONE) {
                return 6;
            }
            return flags != 0 ? 7 : 0;
        }

        private int faultOfParts() {
            boolean numeric = NUMERIC.indexOf(conversion) >= 0;
            if (precision != NONE && WITHOUT_PRECISION.indexOf(conversion) >= 0) {
                return 6;
            }
            if (conversion == '%' && hasAny(~MINUS)) {
                return 7;
            }
            if (width == NONE && hasAny(numeric ? MINUS | ZERO : MINUS)) {
                return 8;
            }
            if (numeric && (hasBoth(PLUS, SPACE) || hasBoth(MINUS, ZERO))) {
                return 7;
            }
            return hasAny(~ownFlags()) ? 9 : 0;
        }

        private int ownFlags() {
            int signs = MINUS | PLUS | SPACE | ZERO;
            switch (conversion) {
                case 'd':
                case 'g':
                    return signs | COMMA | BRACKET;
                case 'o':
                case 'x':
                case 'e':
                    return signs | SHARP | BRACKET;
                case 'f':
                    return signs | SHARP | COMMA | BRACKET;
                case 'a':
                    return signs | SHARP;
                default:
                    return MINUS;
            }
        }

        private int readIndex(Row format, int at) {
            if (format.at(at) == '<') {
                index = BEFORE;
                return at + 1;
            }
            int behind = digitsEnd(format, at);
            if (format.at(at) == '0' || behind == at || format.at(behind) != '$') {
                return at;
            }
            index = numberIn(format, at, behind);
            return behind + 1;
        }

        private int readFlags(Row format, int start) {
            int at = start;
            for (; at < format.used; at++) {
                int flag = flagOf(format.at(at));
                if (flag == 0) {
                    break;
                }
                flagTwice = flagTwice || hasAny(flag);
                flags |= flag;
            }
            return at;
        }

        private int readWidth(Row format, int at) {
            int behind = digitsEnd(format, at);
            if (behind > at) {
                width = numberIn(format, at, behind);
            }
            return behind;
        }

        private int readPrecision(Row format, int at) {
            if (format.at(at) != '.') {
                return at;
            }
            int behind = digitsEnd(format, at + 1);
            if (behind == at + 1) {
                cutOff = true;
            } else {
                precision = numberIn(format, at + 1, behind);
            }
            return behind;
        }

        private void readConversion(Row format, int at) {
            last = at;
            int c = format.at(at);
            if (c < 0) {
                cutOff = true;
                return;
            }
            great = GREAT.indexOf((char) c) >= 0;
            conversion = (char) (great ? c + ('a' - 'A') : c);
            known = SMALL.indexOf(conversion) >= 0;
        }

        private static int digitsEnd(Row format, int start) {
            int at = start;
            while (at < format.used && format.at(at) >= '0' && format.at(at) <= '9') {
                at++;
            }
            return at;
        }

        /** The number that the digits tell, or one above the most: more digits than an int holds may stand there. */
        private static int numberIn(Row format, int start, int behind) {
            int number = 0;
            for (int at = start; at < behind; at++) {
                number = Math.min(NUMBER_MOST + 1, number * 10 + format.at(at) - '0');
            }
            return number;
        }

        private static int flagOf(int c) {
            switch (c) {
                case '-':
                    return MINUS;
                case '#':
                    return SHARP;
                case '+':
                    return PLUS;
                case ' ':
                    return SPACE;
                case '0':
                    return ZERO;
                case ',':
                    return COMMA;
                case '(':
                    return BRACKET;
                default:
                    return 0;
            }
        }
    }

    /** The digits of a size to some base, the lowest one first, from the power lowest on. */
    private static final class Digits {
        private static final int LIMBS = 16;
        private static final int ROUNDS = 20;
        private static final int CELLS = 208;
        private static final long LIMB_MASK = 0xFFFFFFFFL;

        private final int[] limbs = new int[LIMBS];
        private final byte[] cells = new byte[CELLS];
        private int used;
        private int lowest;

        void take(Argument number, int base) {
            for (int i = 0; i < Argument.WORDS; i++) {
                setLimbs(i, number.words[i]);
            }
            spell(base);
            lowest = number.lowest;
        }

        void takeBits(long bits, int base) {
            Arrays.fill(limbs, 0);
            setLimbs(0, bits);
            spell(base);
            lowest = 0;
        }

        boolean isZero() {
            return used == 0;
        }

        /** The exponent of the first digit that is not 0; 0 for the size 0. */
        int first() {
            return used == 0 ? 0 : lowest + used - 1;
        }

        /** The exponent of the last digit that is not 0; 0 for the size 0. */
        int lastNotZero() {
            for (int i = 0; i < used; i++) {
                if (cells[i] != 0) {
                    return lowest + i;
                }
            }
            return 0;
        }

        int at(int exponent) {
            int i = exponent - lowest;
            return i >= 0 && i < used && i < CELLS ? cells[i] : 0;
        }

        /** Rounds half up to a multiple of 10^exponent. */
        void roundTo(int exponent) {
            int cut = exponent - lowest;
            if (cut <= 0) {
                return;
            }
            if (cut > used) {
                used = 0;
                return;
            }
            boolean up = cells[cut - 1] >= 5;
            for (int i = 0; i < cut; i++) {
                cells[i] = 0;
            }
            if (up) {
                carryInto(cut);
            }
            trim();
        }

        private void carryInto(int start) {
            for (int i = start; i < CELLS; i++) {
                if (i >= used) {
                    cells[i] = 1;
                    used = i + 1;
                    return;
                }
                if (cells[i] < 9) {
                    cells[i]++;
                    return;
                }
                cells[i] = 0;
            }
        }

        private void trim() {
            while (used > 0 && cells[used - 1] == 0) {
                used--;
            }
        }

        private void setLimbs(int word, long bits) {
            if (word >= 0 && word < LIMBS / 2) {
                limbs[2 * word] = (int) bits;
                limbs[2 * word + 1] = (int) (bits >>> 32);
            }
        }

        /** Takes many digits by one division of the whole size: by a single digit it would cost many times more. */
        private void spell(int base) {
            int atOnce = base == 10 ? 9 : base == 16 ? 7 : 10;
            int divisor = base == 10 ? 1000000000 : base == 16 ? 1 << 28 : 1 << 30;
            used = 0;
            int top = topFrom(LIMBS);
            for (int round = 0; round < ROUNDS && top > 0; round++) {
                long rest = divide(top, divisor);
                for (int i = 0; i < atOnce && used < CELLS && base > 0; i++) {
                    cells[used] = (byte) (rest % base);
                    used++;
                    rest /= base;
                }
                top = topFrom(top);
            }
            trim();
        }

        private int topFrom(int start) {
            int top = start;
            while (top > 0 && limbs[top - 1] == 0) {
                top--;
            }
            return top;
        }

        private long divide(int top, int divisor) {
            long rest = 0;
            for (int i = top - 1; i >= 0 && divisor > 0; i--) {
                long part = rest << 32 | limbs[i] & LIMB_MASK;
                limbs[i] = (int) (part / divisor);
                rest = part % divisor;
            }
            return rest;
        }
    }

    /** A fraction's bits as 1.rest to the base 16 and an exponent of 2; all 0 for the size 0. */
    private static final class Hex {
        private static final int REST_BITS = 52;
        private static final int REST_DIGITS = 13;
        private static final int EXPONENT_MASK = 2047;
        private static final int BIAS = 1023;
        private static final long FIRST_BIT = 1L << REST_BITS;
        private static final long REST_MASK = FIRST_BIT - 1;

        private long mantissa;
        private int exponent;
        private int digits;

        static int exponentBits(long bits) {
            return (int) (bits >>> REST_BITS) & EXPONENT_MASK;
        }

        void take(long bits) {
            digits = REST_DIGITS;
            exponent = 0;
            mantissa = bits & REST_MASK;
            int e = exponentBits(bits);
            if (e != 0) {
                mantissa |= FIRST_BIT;
                exponent = e - BIAS;
            } else if (mantissa != 0) {
                exponent = 1 - BIAS;
                for (int i = 0; i < REST_BITS && (mantissa & FIRST_BIT) == 0; i++) {
                    mantissa <<= 1;
                    exponent--;
                }
            }
        }

        void roundTo(int most) {
            if (most < 1 || most >= digits) {
                return;
            }
            int dropped = 4 * (digits - most);
            long half = 1L << dropped - 1;
            long rest = mantissa & (1L << dropped) - 1;
            mantissa >>>= dropped;
            if (rest > half || rest == half && (mantissa & 1) == 1) {
                mantissa++;
            }
            digits = most;
            if (mantissa >>> 4 * digits == 2) {
                mantissa >>>= 1;
                exponent++;
            }
        }

        void dropZeros() {
            while (digits > 1 && (mantissa & 15) == 0) {
                mantissa >>>= 4;
                digits--;
            }
        }

        /** Digit k behind the point, the first one being 1; the one before the point is 0. */
        int at(int k) {
            return k >= 0 && k <= digits ? (int) (mantissa >>> 4 * (digits - k)) & 15 : 0;
        }
    }

    /** Lays out one specifier at a time: a head (sign and prefix), a body from the first digit on, and filling. */
    private static final class Composer {
        private static final int HEAD_MOST = 4;
        // The longest body: 555 digits in front of the point with 184 commas, the point and 999 digits.
        private static final int BODY_MOST = 1800;
        private static final int USUAL_PRECISION = 6;

        private final Specifier specifier;
        private final Row result;
        private final Row head = new Row(HEAD_MOST);
        private final Row body = new Row(BODY_MOST);
        private final Digits digits = new Digits();
        private final Hex hex = new Hex();
        private boolean bracketOpen;
        private boolean zeroFilled;

        Composer(Specifier specifier, Row result) {
            this.specifier = specifier;
            this.result = result;
        }

        void layMark(int mark) {
            start();
            body.add(mark);
            putTogether();
        }

        void layArgument(Argument argument) {
            start();
            char conversion = specifier.conversion;
            boolean asText = conversion == 'b' || conversion == 's';
            if (argument.kind == Kind.NOTHING) {
                setUnfilled(conversion == 'b' ? "false" : "null");
            } else if (argument.isNoNumber() && !asText) {
                setUnfilled("NaN");
            } else if (argument.isBeyondNumbers() && !asText) {
                setSign(argument.minus);
                setUnfilled("Infinity");
            } else {
                switch (conversion) {
                    case 'b':
                        addTruth(argument.kind != Kind.TRUTH || argument.words[0] != 0);
                        break;
                    case 's':
                        setText(argument);
                        break;
                    case 'c':
                        body.add((int) argument.words[0]);
                        break;
                    case 'o':
                        setBased(argument, 8);
                        break;
                    case 'x':
                        setBased(argument, 16);
                        break;
                    case 'a':
                        setHex(argument);
                        break;
                    default:
                        setDecimal(argument);
                        break;
                }
            }
            if (asText) {
                body.cutTo(specifier.precision);
            }
            putTogether();
        }

        private void start() {
            head.empty();
            body.empty();
            bracketOpen = false;
            zeroFilled = specifier.hasAny(Specifier.ZERO);
        }

        /** A word in place of a number: the flag 0 does nothing then. */
        private void setUnfilled(String word) {
            zeroFilled = false;
            body.addWord(word);
        }

        private void putTogether() {
            int own = head.used + body.used + (bracketOpen ? 1 : 0);
            int lack = Math.max(0, specifier.width - own);
            int zeros = zeroFilled ? lack : 0;
            int spaces = lack - zeros;
            boolean left = specifier.hasAny(Specifier.MINUS);
            int begin = result.used;
            result.addMany(' ', left ? 0 : spaces);
            result.addRow(head);
            result.addMany('0', zeros);
            result.addRow(body);
            result.addMany(')', bracketOpen ? 1 : 0);
            result.addMany(' ', left ? spaces : 0);
            if (specifier.great) {
                result.raiseFrom(begin);
            }
        }

        private void setText(Argument argument) {
            digits.take(argument, 10);
            switch (argument.kind) {
                case TRUTH:
                    addTruth(argument.words[0] != 0);
                    break;
                case CHARACTER:
                    body.add((int) argument.words[0]);
                    break;
                case DECIMAL:
                    setDecimalText(argument);
                    break;
                case FRACTION:
                    setFractionText(argument);
                    break;
                case TEXT:
                    if (argument.letters != null) {
                        body.addRow(argument.letters);
                    }
                    break;
                default:
                    addMinus(argument.isBelowZero());
                    addWhole(false);
                    break;
            }
        }

        private void setDecimalText(Argument argument) {
            addMinus(argument.isBelowZero());
            int lowest = argument.lowest;
            int first = digits.isZero() ? lowest : digits.first();
            if (lowest <= 0 && first >= -6) {
                addWhole(false);
                addBehindPoint(-1, lowest, false);
                return;
            }
            body.add(letterOf(digits.at(first)));
            addBehindPoint(first - 1, lowest, false);
            if (first != 0) {
                body.addWord(first > 0 ? "E+" : "E");
                body.addNumber(first, 1);
            }
        }

        private void setFractionText(Argument argument) {
            if (argument.isNoNumber()) {
                body.addWord("NaN");
                return;
            }
            addMinus(argument.minus);
            if (argument.isBeyondNumbers()) {
                body.addWord("Infinity");
                return;
            }
            int first = digits.first();
            int last = digits.lastNotZero();
            if (first >= -3 && first <= 6) {
                addWhole(false);
                addBehindPoint(-1, Math.min(-1, last), false);
                return;
            }
            body.add(letterOf(digits.at(first)));
            addBehindPoint(first - 1, Math.min(first - 1, last), false);
            body.add('E');
            body.addNumber(first, 1);
        }

        /** d, e, f and g. */
        private void setDecimal(Argument argument) {
            setSign(argument.isBelowZero());
            digits.take(argument, 10);
            int precision = specifier.precision == Specifier.NONE ? USUAL_PRECISION : specifier.precision;
            if (specifier.conversion == 'd') {
                addWhole(specifier.hasAny(Specifier.COMMA));
                return;
            }
            boolean fixed = specifier.conversion == 'f';
            if (specifier.conversion == 'g') {
                precision = Math.max(1, precision) - 1;
                digits.roundTo(digits.first() - precision);
                fixed = digits.first() >= -4 && digits.first() <= precision;
                precision -= fixed ? digits.first() : 0;
            }
            if (fixed) {
                setFixed(precision);
            } else {
                setScientific(precision);
            }
        }

        private void setSign(boolean below) {
            if (below) {
                bracketOpen = specifier.hasAny(Specifier.BRACKET);
                head.add(bracketOpen ? '(' : '-');
            } else if (specifier.hasAny(Specifier.PLUS)) {
                head.add('+');
            } else if (specifier.hasAny(Specifier.SPACE)) {
                head.add(' ');
            }
        }

        private void setBased(Argument argument, int base) {
            if (argument.kind == Kind.SHORT_WHOLE) {
                digits.takeBits(argument.bits, base);
            } else {
                setSign(argument.isBelowZero());
                digits.take(argument, base);
            }
            if (specifier.hasAny(Specifier.SHARP)) {
                head.addWord(base == 8 ? "0" : "0x");
            }
            addWhole(false);
        }

        private void setFixed(int precision) {
            digits.roundTo(-precision);
            addWhole(specifier.hasAny(Specifier.COMMA));
            addBehindPoint(-1, -precision, specifier.hasAny(Specifier.SHARP));
        }

        private void setScientific(int precision) {
            digits.roundTo(digits.first() - precision);
            int first = digits.first();
            body.add(letterOf(digits.at(first)));
            addBehindPoint(first - 1, first - precision, specifier.hasAny(Specifier.SHARP));
            body.addWord(first < 0 ? "e" : "e+");
            body.addNumber(first, 2);
        }

        private void setHex(Argument argument) {
            int precision = specifier.precision;
            hex.take(argument.bits);
            setSign(argument.isBelowZero());
            if (precision == Specifier.NONE) {
                hex.dropZeros();
                precision = hex.digits;
            }
            precision = Math.max(1, precision);
            hex.roundTo(precision);
            head.addWord("0x");
            body.add('0' + hex.at(0));
            body.add('.');
            for (int k = 1; k <= precision; k++) {
                body.add(letterOf(hex.at(k)));
            }
            body.add('p');
            body.addNumber(hex.exponent, 1);
        }

        private void addMinus(boolean below) {
            if (below) {
                body.add('-');
            }
        }

        private void addTruth(boolean is) {
            body.addWord(is ? "true" : "false");
        }

        private void addWhole(boolean grouped) {
            for (int exponent = Math.max(0, digits.first()); exponent >= 0; exponent--) {
                body.add(letterOf(digits.at(exponent)));
                if (grouped && exponent > 0 && exponent % 3 == 0) {
                    body.add(',');
                }
            }
        }

        /** A point and the digits down to the last exponent; without any, a point only if it must be. */
        private void addBehindPoint(int from, int last, boolean pointAnyway) {
            if (from >= last || pointAnyway) {
                body.add('.');
            }
            for (int exponent = from; exponent >= last; exponent--) {
                body.add(letterOf(digits.at(exponent)));
            }
        }

        private static int letterOf(int digit) {
            return digit < 10 ? '0' + digit : 'a' + digit - 10;
        }
    }
}

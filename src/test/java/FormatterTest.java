import java.math.BigDecimal;
import java.math.BigInteger;
import java.util.IllegalFormatException;
import java.util.Locale;
import java.util.Random;
import java.util.regex.Pattern;

/**
 * Promise 13 against java.util.Formatter, which another hand wrote: one specifier and one argument at a time. Where the document
 * says something else than Formatter does, the specifier is left out; of faults only that there is one is looked at.
 */
public final class FormatterTest {
    private static final int RUNS = 120000;
    private static final String CONVERSIONS = "bscdoxefgaBSCXEGA%n";
    /** Formatter writes the exponent of a ten digit decimal without scale so, against its own document. */
    private static final Pattern ONE_DIGIT = Pattern.compile("[0-9.][eE]\\+9[^0-9]");
    private static final double[] EDGES = {0.0, -0.0, Double.NaN, Double.POSITIVE_INFINITY, Double.NEGATIVE_INFINITY, Double.MAX_VALUE,
        Double.MIN_NORMAL, 1e-4, 9.9999e-5, 99999.95, 999999.5, 1e-3, 9.99e-4, 1e7, 9999999.5, 0.5, 1.5, 2.5};

    private final Random random = new Random(20261116L);
    private final Checks checks = new Checks();
    private SpecifierDesk desk;
    private int compared;

    public static void main(String[] args) {
        FormatterTest test = new FormatterTest();
        for (int run = 0; run < RUNS; run++) {
            test.desk = new SpecifierDesk();
            test.run();
        }
        test.checks.due("most were compared", test.compared > RUNS / 2, true);
        test.checks.end();
    }

    private void run() {
        Object value = value();
        char conversion = conversionFor(value);
        String flags = flags();
        int precision = random.nextInt(2) == 0 ? -1 : random.nextInt(random.nextInt(8) == 0 ? 400 : 20);
        String format = "%" + (random.nextInt(4) == 0 ? "1$" : "") + flags + (random.nextBoolean() ? 1 + random.nextInt(40) : "")
            + (precision < 0 ? "" : "." + precision) + conversion;
        if (isToldOtherwise(value, Character.toLowerCase(conversion), flags, precision)) {
            return;
        }
        String want = formatted(format, value);
        if ("eEgG".indexOf(conversion) >= 0 && ONE_DIGIT.matcher(want).find()) {
            return;
        }
        compared++;
        String got = Checks.laidOut(desk, format);
        checks.due(format + " of " + value, got.startsWith("'") ? got : "a fault", want);
    }

    private static String formatted(String format, Object value) {
        try {
            return "'" + String.format(Locale.ROOT, format, value) + "'";
        } catch (IllegalFormatException e) {
            return "a fault";
        }
    }

    private static boolean isToldOtherwise(Object value, char conversion, String flags, int precision) {
        if (value == null) {
            return precision >= 0 && "efga".indexOf(conversion) >= 0;
        }
        if (value instanceof BigDecimal decimal) {
            return decimal.signum() == 0 && (conversion == 'e' || conversion == 'g');
        }
        if (value instanceof Double number) {
            boolean small = number != 0 && Math.abs(number) < Double.MIN_NORMAL;
            // Formatter fills up first and puts the precision's zeros behind that.
            return conversion == 'a' && (small || precision >= 0 && flags.contains("0"));
        }
        return conversion == 'c' && value instanceof Number number && (number.longValue() < 1 || number.longValue() > 126);
    }

    private String flags() {
        StringBuilder flags = new StringBuilder();
        for (int i = random.nextInt(4); i > 0; i--) {
            flags.append("-#+ 0,(".charAt(random.nextInt(7)));
        }
        return flags.toString();
    }

    private char conversionFor(Object value) {
        String from = CONVERSIONS;
        if (random.nextInt(6) != 0) {
            from = value instanceof BigDecimal ? "sefgEG" : value instanceof Double ? "sefgaEGA" : value instanceof Number ? "bsdoxX" : CONVERSIONS;
        }
        return from.charAt(random.nextInt(from.length()));
    }

    /** A value that the desk has as argument 1, too. */
    private Object value() {
        switch (random.nextInt(9)) {
            case 0:
                desk.nothing();
                return null;
            case 1:
                boolean is = random.nextBoolean();
                desk.truth(is);
                return is;
            case 2:
                char c = (char) (1 + random.nextInt(126));
                desk.character(c);
                return c;
            case 3:
                return text();
            case 4:
                return shortWhole();
            case 5:
                return longWhole();
            case 6:
            case 7:
                int scale = random.nextInt(3) == 0 ? random.nextInt(801) - 400 : random.nextInt(30) - 10;
                BigInteger size = longWhole();
                desk.scale(scale);
                return new BigDecimal(size, scale);
            default:
                return fraction();
        }
    }

    private String text() {
        StringBuilder text = new StringBuilder();
        for (int i = random.nextInt(10); i > 0; i--) {
            text.append((char) (1 + random.nextInt(126)));
        }
        Checks.writeText(desk, text.toString());
        desk.text();
        return text.toString();
    }

    private Object shortWhole() {
        long v = random.nextLong() >> random.nextInt(64);
        int width = 8 << random.nextInt(4);
        desk.whole(v, width);
        switch (width) {
            case 8:
                return (byte) v;
            case 16:
                return (short) v;
            case 32:
                return (int) v;
            default:
                return v;
        }
    }

    private BigInteger longWhole() {
        BigInteger size = new BigInteger(random.nextInt(random.nextInt(3) == 0 ? 513 : 40), random);
        boolean minus = random.nextBoolean();
        int words = Math.max(1, (size.bitLength() + 63) / 64);
        for (int i = words - 1; i >= 0; i--) {
            long word = size.shiftRight(64 * i).longValue();
            if (i == words - 1) {
                desk.size(minus, word);
            } else {
                desk.more(word);
            }
        }
        return minus ? size.negate() : size;
    }

    private Double fraction() {
        double number = someDouble();
        BigDecimal decimal = BigDecimal.ZERO;
        if (!Double.isNaN(number) && !Double.isInfinite(number)) {
            decimal = new BigDecimal(Double.toString(Math.abs(number)));
        }
        if (decimal.precision() > 17 || decimal.signum() != 0 && decimal.compareTo(formattersOwn(number)) != 0) {
            // Double.toString has one digit too many for the desk here and there, and in some Javas others than Formatter.
            number = 1;
            decimal = BigDecimal.ONE;
        }
        desk.fraction(Double.doubleToRawLongBits(number), decimal.unscaledValue().longValueExact(), -decimal.scale());
        return number;
    }

    private static BigDecimal formattersOwn(double number) {
        return new BigDecimal(String.format(Locale.ROOT, "%.16e", Math.abs(number)));
    }

    private double someDouble() {
        switch (random.nextInt(4)) {
            case 0:
                return Double.longBitsToDouble(random.nextLong());
            case 1:
                return (random.nextInt(20000) - 10000) / (double) (1 << random.nextInt(12));
            case 2:
                return EDGES[random.nextInt(EDGES.length)];
            default:
                return random.nextInt(1000000) * Math.pow(10, random.nextInt(20) - 12);
        }
    }
}

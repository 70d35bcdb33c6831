import java.math.BigInteger;
import java.util.ArrayList;
import java.util.List;
import java.util.Random;

/** Promise 13 on many made up formats and arguments, against the oracle; the seed is fixed. */
public final class OracleTest {
    private static final int RUNS = 150000;
    private static final String CONVERSIONS = "bscdoxefgaBSCXEGA%n";
    private static final String FITTING_SHORT = "bsdoxXS";
    private static final String FITTING_DECIMAL = "sefgEGS";
    private static final String FITTING_FRACTION = "sefgaEGAS";

    private final Random random = new Random(20261115L);
    private final Checks checks = new Checks();
    private final int[] seen = new int[15];

    public static void main(String[] args) {
        OracleTest test = new OracleTest();
        for (int run = 0; run < RUNS; run++) {
            test.run();
        }
        for (int fault = 0; fault < test.seen.length; fault++) {
            test.checks.due("answer " + fault + " was seen", test.seen[fault] > 20, true);
        }
        test.checks.end();
    }

    private void run() {
        SpecifierDesk desk = new SpecifierDesk();
        List<Oracle.Value> values = new ArrayList<>();
        int count = random.nextInt(5) == 0 ? random.nextInt(13) : 1 + random.nextInt(3);
        for (int i = 0; i < count; i++) {
            values.add(argument(desk));
        }
        String format = format(values);
        String want = new Oracle(format, values).answer();
        checks.due(format + " of " + told(values), Checks.laidOut(desk, format), want);
        seen[want.startsWith("'") ? 0 : Integer.parseInt(want)]++;
        if (want.startsWith("'")) {
            // Draft and arguments stay, so a little more can be written behind them.
            checks.due("again " + format, Checks.laidOut(desk, "|%%"), new Oracle(format + "|%%", values).answer());
        }
    }

    private static String told(List<Oracle.Value> values) {
        StringBuilder told = new StringBuilder();
        for (Oracle.Value v : values) {
            told.append(v.kind).append(' ').append(v.minus ? "-" : "").append(v.number).append("e-").append(v.places)
                .append(' ').append(Long.toHexString(v.bits)).append(' ').append(v.text).append("; ");
        }
        return told.toString();
    }

    private String format(List<Oracle.Value> values) {
        StringBuilder format = new StringBuilder();
        int parts = 1 + random.nextInt(4);
        boolean heavy = random.nextInt(25) == 0;
        for (int i = 0; i < (heavy ? 8 : parts); i++) {
            if (random.nextInt(3) == 0) {
                format.append((char) (1 + random.nextInt(126)));
            }
            format.append(random.nextInt(12) == 0 ? wildSpecifier() : specifier(values, heavy));
        }
        return format.toString();
    }

    private String wildSpecifier() {
        String alphabet = "%%%.$<123450009-#+ 0,(bscdoxefgaBSCXEGAnDy";
        StringBuilder wild = new StringBuilder("%");
        for (int i = random.nextInt(7); i > 0; i--) {
            wild.append(alphabet.charAt(random.nextInt(alphabet.length())));
        }
        return wild.toString();
    }

    private String specifier(List<Oracle.Value> values, boolean heavy) {
        StringBuilder s = new StringBuilder("%");
        Oracle.Value value = null;
        if (!values.isEmpty() && random.nextInt(8) != 0) {
            int number = 1 + random.nextInt(values.size());
            value = values.get(number - 1);
            s.append(number).append('$');
        } else if (random.nextInt(4) == 0) {
            s.append(random.nextBoolean() ? "<" : random.nextInt(14) + "$");
        }
        char conversion = conversionFor(value);
        String flags = random.nextInt(10) == 0 ? "-#+ 0,(" : ownFlags(conversion);
        for (int i = random.nextInt(4); i > 0 && !flags.isEmpty(); i--) {
            char flag = flags.charAt(random.nextInt(flags.length()));
            if (s.indexOf(String.valueOf(flag)) < 0 || random.nextInt(30) == 0) {
                s.append(flag);
            }
        }
        if (heavy || random.nextInt(3) != 0) {
            int width = heavy ? 300 + random.nextInt(700) : 1 + random.nextInt(random.nextInt(4) == 0 ? 200 : 20);
            s.append(random.nextInt(150) == 0 ? 998 + random.nextInt(4) : width);
        }
        boolean precise = "bsefgaBSEGA".indexOf(conversion) >= 0;
        if (random.nextInt(2) == 0 && (precise || random.nextInt(20) == 0)) {
            s.append('.').append(random.nextInt(random.nextInt(10) == 0 ? 1003 : 20));
        }
        return s.append(conversion).toString();
    }

    private char conversionFor(Oracle.Value value) {
        String from = CONVERSIONS;
        if (value != null && random.nextInt(6) != 0) {
            from = value.isWhole() ? FITTING_SHORT : value.kind.equals("decimal") ? FITTING_DECIMAL
                : value.kind.equals("fraction") ? FITTING_FRACTION : CONVERSIONS;
        }
        return from.charAt(random.nextInt(from.length()));
    }

    private static String ownFlags(char conversion) {
        return switch (Character.toLowerCase(conversion)) {
            case 'd', 'g' -> "-+ 0,(";
            case 'o', 'x' -> "-#0#0(+";
            case 'e' -> "-#+ 0(";
            case 'f' -> "-#+ 0,(";
            case 'a' -> "-#+ 0";
            case 'n' -> "";
            default -> "-";
        };
    }

    private long someLong() {
        switch (random.nextInt(4)) {
            case 0:
                return random.nextInt(300) - 150;
            case 1:
                return (random.nextBoolean() ? 1 : -1) * (1L << random.nextInt(64)) - random.nextInt(2);
            default:
                return random.nextLong() >> random.nextInt(64);
        }
    }

    private Oracle.Value argument(SpecifierDesk desk) {
        switch (random.nextInt(10)) {
            case 0:
                desk.nothing();
                return new Oracle.Value("nothing");
            case 1: {
                Oracle.Value v = new Oracle.Value("truth");
                v.text = String.valueOf(random.nextBoolean());
                desk.truth(v.text.equals("true"));
                return v;
            }
            case 2: {
                Oracle.Value v = new Oracle.Value("character");
                v.text = String.valueOf((char) (1 + random.nextInt(126)));
                desk.character(v.text.charAt(0));
                return v;
            }
            case 3: {
                Oracle.Value v = new Oracle.Value("text");
                StringBuilder text = new StringBuilder();
                for (int i = random.nextInt(12); i > 0; i--) {
                    text.append((char) (1 + random.nextInt(126)));
                }
                v.text = text.toString();
                Checks.writeText(desk, v.text);
                desk.text();
                return v;
            }
            case 4:
            case 5:
                return shortWhole(desk);
            case 6:
            case 7:
                return longWhole(desk);
            default:
                return fraction(desk);
        }
    }

    private Oracle.Value shortWhole(SpecifierDesk desk) {
        int width = 8 << random.nextInt(4);
        long given = someLong();
        Oracle.Value v = new Oracle.Value("short" + width);
        long value = width == 8 ? (byte) given : width == 16 ? (short) given : width == 32 ? (int) given : given;
        v.number = BigInteger.valueOf(value);
        v.minus = value < 0;
        desk.whole(given, width);
        return v;
    }

    private Oracle.Value longWhole(SpecifierDesk desk) {
        boolean decimal = random.nextInt(3) != 0;
        Oracle.Value v = new Oracle.Value(decimal ? "decimal" : "long");
        v.minus = random.nextBoolean();
        int bits = random.nextInt(random.nextInt(3) == 0 ? 513 : 70);
        v.number = new BigInteger(bits, random);
        switch (random.nextInt(8)) {
            case 0 -> v.number = BigInteger.TEN.pow(random.nextInt(155)).subtract(BigInteger.valueOf(random.nextInt(2)));
            case 1 -> v.number = BigInteger.valueOf(random.nextInt(20)).multiply(BigInteger.TEN.pow(random.nextInt(20)));
            case 2 -> v.number = BigInteger.ONE.shiftLeft(64 * (1 + random.nextInt(8))).subtract(BigInteger.ONE);
            default -> { }
        }
        int words = Math.max(1, (v.number.bitLength() + 63) / 64);
        for (int i = words - 1; i >= 0; i--) {
            long word = v.number.shiftRight(64 * i).longValue();
            if (i == words - 1) {
                desk.size(v.minus, word);
            } else {
                desk.more(word);
            }
        }
        if (decimal) {
            v.places = places();
            desk.scale(v.places);
        }
        return v;
    }

    private int places() {
        return random.nextInt(3) == 0 ? random.nextInt(801) - 400 : random.nextInt(40) - 15;
    }

    private Oracle.Value fraction(SpecifierDesk desk) {
        Oracle.Value v = new Oracle.Value("fraction");
        long d = random.nextLong(100000000000000000L) >> random.nextInt(57);
        d = random.nextInt(4) == 0 ? random.nextInt(20) * (long) Math.pow(10, random.nextInt(15)) : d;
        v.number = BigInteger.valueOf(d);
        v.places = places();
        v.bits = switch (random.nextInt(8)) {
            case 0 -> random.nextLong() | 0x7FF0000000000000L;
            case 1 -> random.nextBoolean() ? 0x7FF0000000000000L : 0xFFF0000000000000L;
            case 2 -> random.nextBoolean() ? 0 : Long.MIN_VALUE;
            case 3 -> random.nextLong() >>> 12 + random.nextInt(52);
            case 4 -> Double.doubleToLongBits(random.nextInt(4096) / 1024.0);
            case 5 -> random.nextLong() & -1L << random.nextInt(52);
            default -> random.nextLong();
        };
        desk.fraction(v.bits, d, -v.places);
        return v;
    }
}

import java.math.BigInteger;
import java.util.function.Supplier;

/** The boundary cases of e, f, g, a and the texts of DECIMAL and FRACTION (promise 13): one test for each sentence that names any. */
public final class BoundaryNumbersTest {
    private static final Checks CHECKS = new Checks();
    private static final long MINUS = Long.MIN_VALUE;
    private static final long ONE = 0x3FF0000000000000L;
    private static final long PI = 0x400921FB54442D18L;
    private static final long INFINITE = 0x7FF0000000000000L;
    private static final String GREATEST = BigInteger.TWO.pow(512).subtract(BigInteger.ONE).toString();

    public static void main(String[] args) {
        theBitsOfAFraction();
        itsDecimalWhateverTheBits();
        belowZero();
        scientificRounding();
        scientificOfZero();
        scientificPoint();
        scientificExponent();
        fixedRounding();
        fixedWholePart();
        fixedPoint();
        generalPrecision();
        generalFromTenToMinusFour();
        generalBelowTenToP();
        generalOfZero();
        generalAsFixed();
        halfUp();
        staysBelowZero();
        hexFirstDigit();
        hexOfZero();
        hexDigits();
        hexExponent();
        hexPrecision();
        hexRounding();
        hexCarry();
        hexManyDigits();
        noNumber();
        infinite();
        textOfFractionPlain();
        textOfFractionZeros();
        textOfFractionZero();
        textBeyondNumbers();
        textOfDecimalPlain();
        textOfDecimalExponent();
        textOfDecimalZero();
        CHECKS.end();
    }

    private static void lays(Supplier<SpecifierDesk> desk, String... formatsAndTexts) {
        CHECKS.lays(desk, formatsAndTexts);
    }

    /** The decimal size * 10^-scale, and the fraction with the same decimal, give the same. */
    private static void bothLay(long size, int scale, String... formatsAndTexts) {
        lays(() -> Desks.decimal(false, size, scale), formatsAndTexts);
        lays(() -> Desks.fraction(PI, size, -scale), formatsAndTexts);
    }

    private static void theBitsOfAFraction() {
        CHECKS.sentence("With e = 2047 it is NO NUMBER if f is not 0, otherwise INFINITE");
        lays(() -> Desks.fraction(INFINITE, 5, 0), "%.0f", "Infinity", "%s", "Infinity");
        lays(() -> Desks.fraction(INFINITE | 1, 5, 0), "%.0f", "NaN", "%s", "NaN");
        lays(() -> Desks.fraction(INFINITE | 1L << 51, 5, 0), "%.0f", "NaN", "%s", "NaN");
        lays(() -> Desks.fraction(Long.MAX_VALUE, 5, 0), "%.0f", "NaN", "%s", "NaN");
        lays(() -> Desks.fraction(MINUS | INFINITE, 5, 0), "%.0f", "-Infinity", "%s", "-Infinity");
        lays(() -> Desks.fraction(INFINITE - 1, 5, 0), "%.0f", "5", "%s", "5.0");
        lays(() -> Desks.fraction(MINUS | INFINITE - 1, 5, 0), "%.0f", "-5", "%s", "-5.0");
    }

    private static void itsDecimalWhateverTheBits() {
        CHECKS.sentence("Its DECIMAL is d * 10^t with its sign, whatever the other bits say");
        for (long bits : new long[] {0, 1, ONE, PI, INFINITE - 1}) {
            lays(() -> Desks.fraction(bits, 25, -1), "%.1f", "2.5", "%.1e", "2.5e+00", "%.2g", "2.5", "%s", "2.5");
            lays(() -> Desks.fraction(MINUS | bits, 25, -1), "%.1f", "-2.5", "%.1e", "-2.5e+00", "%.2g", "-2.5", "%s", "-2.5");
        }
        lays(() -> Desks.fraction(PI, 0, 0), "%.1f", "0.0", "%.1e", "0.0e+00", "%s", "0.0");
    }

    private static void belowZero() {
        CHECKS.sentence("both are below 0 when the sign is minus and the SIZE not 0");
        lays(() -> Desks.size(true, 0), "%d", "0", "%(d", "0", "%s", "0", "%x", "0");
        lays(() -> Desks.size(true, 1), "%d", "-1", "%(d", "(1)", "%s", "-1", "%x", "-1");
        lays(() -> Desks.size(true, 1, 0), "%d", "-18446744073709551616", "%x", "-1" + "0".repeat(16));
        lays(() -> Desks.size(true, 1, 0, 0, 0, 0, 0, 0, 0), "%x", "-1" + "0".repeat(112));
        lays(() -> Desks.decimal(true, 0, 1), "%.1f", "0.0", "%s", "0.0", "%.0e", "0e+00", "%.0g", "0", "%+.0f", "+0");
        lays(() -> Desks.decimal(true, 1, 1), "%.1f", "-0.1", "%s", "-0.1", "%.0e", "-1e-01", "%.0g", "-0.1");
    }

    private static void scientificRounding() {
        CHECKS.sentence("e: its size rounded HALF UP to PRECISION (without one: 6) digits behind the first one that is not 0");
        bothLay(12345678, 0, "%e", "1.234568e+07", "%.6e", "1.234568e+07", "%.7e", "1.2345678e+07", "%.8e", "1.23456780e+07", "%.0e", "1e+07");
        bothLay(25, 0, "%.0e", "3e+01", "%.1e", "2.5e+01");
        bothLay(24, 0, "%.0e", "2e+01");
        bothLay(2499999999L, 0, "%.0e", "2e+09");
        bothLay(15, 5, "%.0e", "2e-04");
        bothLay(99, 0, "%.0e", "1e+02", "%.1e", "9.9e+01");
        bothLay(94, 0, "%.0e", "9e+01");
        bothLay(995, 0, "%.1e", "1.0e+03", "%.0e", "1e+03");
        bothLay(994, 0, "%.1e", "9.9e+02");
        bothLay(95, 11, "%.0e", "1e-09");
        bothLay(95, 1, "%.0e", "1e+01");
        bothLay(95, 2, "%.0e", "1e+00");
        bothLay(1, 0, "%.999e", "1." + "0".repeat(999) + "e+00");
        lays(() -> Desks.greatest(false, -400), "%.3e", "1.341e+554", "%.153e", "1." + GREATEST.substring(1, 152) + "10e+554",
            "%.154e", "1." + GREATEST.substring(1) + "e+554", "%.155e", "1." + GREATEST.substring(1) + "0e+554");
    }

    private static void scientificOfZero() {
        CHECKS.sentence("e: (size 0: all 0)");
        for (int scale : new int[] {0, 1, -1, 7, 400, -400}) {
            bothLay(0, scale, "%e", "0.000000e+00", "%.0e", "0e+00", "%#.0e", "0.e+00", "%.1e", "0.0e+00", "%.2E", "0.00E+00");
        }
    }

    private static void scientificPoint() {
        CHECKS.sentence("e: if PRECISION is not 0 or there is # a point");
        bothLay(1, 0, "%.0e", "1e+00", "%#.0e", "1.e+00", "%.1e", "1.0e+00", "%#.1e", "1.0e+00", "%#07.0e", "01.e+00");
    }

    private static void scientificExponent() {
        CHECKS.sentence("e: e, + or -, and the exponent in at least two digits");
        Object[][] rows = {{0, "e+00"}, {-1, "e+01"}, {-9, "e+09"}, {-10, "e+10"}, {-99, "e+99"}, {-100, "e+100"}, {-400, "e+400"}, {1, "e-01"},
            {9, "e-09"}, {10, "e-10"}, {99, "e-99"}, {100, "e-100"}, {400, "e-400"}};
        for (Object[] row : rows) {
            bothLay(1, (Integer) row[0], "%.0e", "1" + row[1], "%.1e", "1.0" + row[1]);
        }
        bothLay(99999999999999999L, -400, "%.0e", "1e+417", "%.16e", "9.9999999999999999e+416");
    }

    private static void fixedRounding() {
        CHECKS.sentence("f: the size rounded HALF UP to PRECISION (6) digits behind the point");
        bothLay(12345678, 7, "%f", "1.234568", "%.6f", "1.234568", "%.7f", "1.2345678", "%.8f", "1.23456780");
        bothLay(5, 1, "%.0f", "1", "%.1f", "0.5");
        bothLay(4, 1, "%.0f", "0");
        bothLay(49, 2, "%.0f", "0", "%.1f", "0.5");
        bothLay(15, 1, "%.0f", "2");
        bothLay(25, 1, "%.0f", "3");
        bothLay(95, 1, "%.0f", "10");
        bothLay(5, 2, "%.0f", "0", "%.1f", "0.1", "%.2f", "0.05");
        bothLay(9, 2, "%.0f", "0");
        bothLay(9995, 2, "%.1f", "100.0");
        bothLay(5, 7, "%f", "0.000001");
        bothLay(4, 7, "%f", "0.000000");
        bothLay(5, 400, "%.400f", "0." + "0".repeat(399) + "5", "%.399f", "0." + "0".repeat(398) + "1", "%.398f", "0." + "0".repeat(398),
            "%.0f", "0", "%.999f", "0." + "0".repeat(399) + "5" + "0".repeat(599));
    }

    private static void fixedWholePart() {
        CHECKS.sentence("f: the whole part (at least one digit; with , in GROUPS)");
        bothLay(25, 2, "%.2f", "0.25", "%,.2f", "0.25");
        bothLay(9994, 1, "%,.0f", "999");
        bothLay(9995, 1, "%,.0f", "1,000", "%.0f", "1000");
        bothLay(9999995, 1, "%,.0f", "1,000,000");
        bothLay(1234567891, 6, "%,.6f", "1,234.567891", "%,f", "1,234.567891");
        bothLay(1, -3, "%,.0f", "1,000", "%,.1f", "1,000.0");
        bothLay(1, -2, "%,.0f", "100");
        bothLay(1, -400, "%.0f", "1" + "0".repeat(400));
        String greatest = GREATEST + "0".repeat(400);
        lays(() -> Desks.greatest(true, -400), "%.0f", "-" + greatest, "%(,.999f",
            "(" + String.format("%,d", new BigInteger(greatest)) + "." + "0".repeat(999) + ")");
    }

    private static void fixedPoint() {
        CHECKS.sentence("f: if PRECISION is not 0 or there is # a point, the digits");
        bothLay(12, 1, "%.0f", "1", "%#.0f", "1.", "%.1f", "1.2", "%#.1f", "1.2", "%#04.0f", "001.");
        bothLay(0, 1, "%.0f", "0", "%#.0f", "0.", "%f", "0.000000");
    }

    private static void generalPrecision() {
        CHECKS.sentence("g: PRECISION p (6; 0 is as 1): the size rounded HALF UP to p digits from the first that is not 0");
        bothLay(1234565, 6, "%g", "1.23457", "%.6g", "1.23457", "%.7g", "1.234565", "%.8g", "1.2345650", "%.0g", "1", "%.1g", "1", "%.2g", "1.2");
        bothLay(25, 0, "%.0g", "3e+01", "%.1g", "3e+01", "%.2g", "25", "%.3g", "25.0");
        bothLay(25, 1, "%.0g", "3", "%.1g", "3");
        bothLay(24, 1, "%.0g", "2", "%.1g", "2");
        bothLay(1, 0, "%.999g", "1." + "0".repeat(998));
        bothLay(1, 4, "%.999g", "0.0001" + "0".repeat(998));
    }

    private static void generalFromTenToMinusFour() {
        CHECKS.sentence("g: from 10^-4");
        bothLay(1, 4, "%g", "0.000100000", "%.1g", "0.0001", "%.0g", "0.0001");
        bothLay(1, 5, "%g", "1.00000e-05", "%.1g", "1e-05");
        bothLay(99999, 9, "%g", "9.99990e-05", "%.5g", "9.9999e-05", "%.4g", "0.0001000", "%.1g", "0.0001");
        bothLay(9999995, 11, "%g", "0.000100000");
        bothLay(9999994, 11, "%g", "9.99999e-05");
        bothLay(10001, 8, "%.5g", "0.00010001");
        bothLay(1, 400, "%.1g", "1e-400");
    }

    private static void generalBelowTenToP() {
        CHECKS.sentence("g: to below 10^p");
        bothLay(999999, 0, "%g", "999999", "%.5g", "1.0000e+06", "%.7g", "999999.0");
        bothLay(1000000, 0, "%g", "1.00000e+06", "%.7g", "1000000", "%,.7g", "1,000,000", "%,g", "1.00000e+06");
        bothLay(9999994, 1, "%g", "999999");
        bothLay(9999995, 1, "%g", "1.00000e+06");
        bothLay(9, 0, "%.1g", "9");
        bothLay(10, 0, "%.1g", "1e+01", "%.2g", "10");
        bothLay(95, 1, "%.1g", "1e+01", "%.2g", "9.5");
        bothLay(94, 1, "%.1g", "9");
        String greatest = GREATEST + "0".repeat(400);
        lays(() -> Desks.greatest(false, -400), "%.555g", greatest, "%.556g", greatest + ".0",
            "%.554g", "1." + greatest.substring(1, 554) + "e+554");
    }

    private static void generalOfZero() {
        CHECKS.sentence("g: if that is 0: as f with PRECISION p - 1 (size 0: exponent 0)");
        for (int scale : new int[] {0, 1, -1, 7, 400, -400}) {
            bothLay(0, scale, "%g", "0.00000", "%.0g", "0", "%.1g", "0", "%.2g", "0.0", "%.3G", "0.00");
        }
    }

    private static void generalAsFixed() {
        CHECKS.sentence("g: as f with PRECISION p - 1 less the exponent of its first digit, otherwise as e with PRECISION p - 1");
        bothLay(123456, 3, "%.3g", "123", "%.4g", "123.5", "%.6g", "123.456", "%.2g", "1.2e+02", "%.1g", "1e+02");
        bothLay(12, 3, "%.1g", "0.01", "%.2g", "0.012", "%.3g", "0.0120");
        bothLay(9996, 3, "%.3g", "10.0", "%.4g", "9.996", "%.1g", "1e+01");
        bothLay(9996, 1, "%.3g", "1.00e+03", "%.4g", "999.6");
        lays(() -> Desks.decimal(true, 12345678, 1), "%(,.7g", "(1,234,568)", "%(,.6g", "(1.23457e+06)", "%(015.7g", "(0000001234568)");
    }

    private static void halfUp() {
        CHECKS.sentence("HALF UP: to the nearest, of two as near the greater size");
        for (int digit = 0; digit <= 9; digit++) {
            // An even and an odd digit in front, both signs: of two as near it is always the greater size.
            String even = digit < 5 ? "2" : "3";
            String odd = digit < 5 ? "3" : "4";
            long low = 20 + digit;
            long high = 30 + digit;
            bothLay(low, 1, "%.0f", even, "%.0e", even + "e+00", "%.1g", even);
            bothLay(high, 1, "%.0f", odd, "%.0e", odd + "e+00", "%.1g", odd);
            lays(() -> Desks.decimal(true, low, 1), "%.0f", "-" + even, "%.0e", "-" + even + "e+00", "%.1g", "-" + even);
            lays(() -> Desks.fraction(MINUS, high, -1), "%.0f", "-" + odd, "%.0e", "-" + odd + "e+00", "%.1g", "-" + odd);
        }
        for (int digit = 1; digit <= 8; digit++) {
            // Each last digit grows by one; a 9 is written as 0, and the one before it grows.
            String next = String.valueOf(digit + 1);
            bothLay(10 * digit + 5, 1, "%.0f", next, "%.0e", next + "e+00", "%.1g", next);
            bothLay(100 * digit + 95, 2, "%.1f", next + ".0", "%.1e", next + ".0e+00", "%.2g", next + ".0");
        }
        bothLay(95, 1, "%.0f", "10", "%.0e", "1e+01", "%.1g", "1e+01");
        bothLay(249999999999999L, 14, "%.0f", "2", "%.0e", "2e+00", "%.1g", "2");
        bothLay(250000000000001L, 14, "%.0f", "3", "%.0e", "3e+00", "%.1g", "3");
    }

    private static void staysBelowZero() {
        CHECKS.sentence("A FRACTION whose sign is minus counts as below 0, also with d 0; what is rounded stays below 0 if it was");
        lays(() -> Desks.fraction(MINUS, 0, 0), "%f", "-0.000000", "%e", "-0.000000e+00", "%g", "-0.00000", "%(.0f", "(0)", "%+.0f", "-0",
            "% .0e", "-0e+00", "%(05.1f", "(0.0)", "%(06.1f", "(00.0)", "%a", "-0x0.0p0", "%s", "-0.0");
        lays(() -> Desks.fraction(0, 0, 0), "%f", "0.000000", "%(.0f", "0", "%+.0f", "+0", "% .0e", " 0e+00", "%a", "0x0.0p0", "%s", "0.0");
        lays(() -> Desks.decimal(true, 4, 1), "%.0f", "-0", "%(.0f", "(0)", "%+.0f", "-0");
        lays(() -> Desks.decimal(true, 1, 400), "%.0f", "-0", "%f", "-0.000000");
        lays(() -> Desks.fraction(MINUS | ONE, 4, -1), "%.0f", "-0", "%(.0f", "(0)");
    }

    private static void hexFirstDigit() {
        CHECKS.sentence("a: 0x1. (for e = 0 and f not 0: the size is written with a first digit 1, too, its exponent less)");
        lays(() -> Desks.fraction(1, 0, 0), "%a", "0x1.0p-1074");
        lays(() -> Desks.fraction(2, 0, 0), "%a", "0x1.0p-1073");
        lays(() -> Desks.fraction(3, 0, 0), "%a", "0x1.8p-1073");
        lays(() -> Desks.fraction(1L << 51, 0, 0), "%a", "0x1.0p-1023");
        lays(() -> Desks.fraction((1L << 51) - 1, 0, 0), "%a", "0x1.ffffffffffffcp-1024");
        lays(() -> Desks.fraction((1L << 52) - 1, 0, 0), "%a", "0x1.ffffffffffffep-1023");
        lays(() -> Desks.fraction(1L << 52, 0, 0), "%a", "0x1.0p-1022");
        lays(() -> Desks.fraction(1L << 52 | 1, 0, 0), "%a", "0x1.0000000000001p-1022");
    }

    private static void hexOfZero() {
        CHECKS.sentence("a: size 0: 0x0.0p0 (with PRECISION q: q zeros)");
        lays(() -> Desks.fraction(0, 5, 5), "%a", "0x0.0p0", "%.0a", "0x0.0p0", "%.1a", "0x0.0p0", "%.2a", "0x0.00p0", "%.13a", "0x0." + "0".repeat(13) + "p0",
            "%.14a", "0x0." + "0".repeat(14) + "p0", "%.999a", "0x0." + "0".repeat(999) + "p0", "%08a", "0x00.0p0", "%A", "0X0.0P0");
        lays(() -> Desks.fraction(MINUS, 5, 5), "%a", "-0x0.0p0", "%.3a", "-0x0.000p0", "%09a", "-0x00.0p0");
    }

    private static void hexDigits() {
        CHECKS.sentence("a: the digits of the rest of the size to the base 16 without zeros at the end (at least one)");
        lays(() -> Desks.fraction(ONE, 0, 0), "%a", "0x1.0p0");
        lays(() -> Desks.fraction(ONE | 1, 0, 0), "%a", "0x1.0000000000001p0");
        lays(() -> Desks.fraction(ONE | 16, 0, 0), "%a", "0x1.000000000001p0");
        lays(() -> Desks.fraction(ONE | 1L << 51, 0, 0), "%a", "0x1.8p0");
        lays(() -> Desks.fraction(ONE | 1L << 48, 0, 0), "%a", "0x1.1p0");
        lays(() -> Desks.fraction(ONE | 1L << 47, 0, 0), "%a", "0x1.08p0");
        lays(() -> Desks.fraction(ONE | 0x0123456789ABCL, 0, 0), "%a", "0x1.0123456789abcp0", "%A", "0X1.0123456789ABCP0");
        lays(() -> Desks.fraction(ONE | 0xDEF0000000000L, 0, 0), "%a", "0x1.defp0");
    }

    private static void hexExponent() {
        CHECKS.sentence("a: p, and the exponent of 2 in decimal, with - if below 0");
        Object[][] rows = {{1, "-1022"}, {923, "-100"}, {1013, "-10"}, {1014, "-9"}, {1022, "-1"}, {1023, "0"}, {1024, "1"}, {1032, "9"}, {1033, "10"},
            {1122, "99"}, {1123, "100"}, {2022, "999"}, {2023, "1000"}, {2046, "1023"}};
        for (Object[] row : rows) {
            lays(() -> Desks.fraction((long) (Integer) row[0] << 52, 0, 0), "%a", "0x1.0p" + row[1], "%.2a", "0x1.00p" + row[1]);
        }
    }

    private static void hexPrecision() {
        CHECKS.sentence("a: with PRECISION q (0 is as 1) exactly q digits behind the point");
        lays(() -> Desks.fraction(ONE, 0, 0), "%.0a", "0x1.0p0", "%.1a", "0x1.0p0", "%.2a", "0x1.00p0", "%.13a", "0x1." + "0".repeat(13) + "p0");
        lays(() -> Desks.fraction(PI, 0, 0), "%.0a", "0x1.9p1", "%.1a", "0x1.9p1", "%.2a", "0x1.92p1", "%.4a", "0x1.9220p1",
            "%.12a", "0x1.921fb54442d2p1", "%.13a", "0x1.921fb54442d18p1", "%#.1a", "0x1.9p1");
    }

    private static void hexRounding() {
        CHECKS.sentence("a: rounded to the nearest of these, of two as near the one with the even last digit");
        Object[][] rows = {{0x0800000000000L, "0"}, {0x0800000000001L, "1"}, {0x07FFFFFFFFFFFL, "0"}, {0x1800000000000L, "2"}, {0x17FFFFFFFFFFFL, "1"},
            {0x2800000000000L, "2"}, {0x2800000000001L, "3"}, {0xE800000000000L, "e"}, {0xE800000000001L, "f"}, {0xF7FFFFFFFFFFFL, "f"}};
        for (Object[] row : rows) {
            lays(() -> Desks.fraction(ONE | (Long) row[0], 0, 0), "%.1a", "0x1." + row[1] + "p0", "%.0a", "0x1." + row[1] + "p0");
        }
        lays(() -> Desks.fraction(ONE | 0x08, 0, 0), "%.12a", "0x1.000000000000p0", "%.11a", "0x1.00000000000p0");
        lays(() -> Desks.fraction(ONE | 0x18, 0, 0), "%.12a", "0x1.000000000002p0");
        lays(() -> Desks.fraction(ONE | 0x19, 0, 0), "%.12a", "0x1.000000000002p0", "%.13a", "0x1.0000000000019p0");
        lays(() -> Desks.fraction(ONE | 0x17, 0, 0), "%.12a", "0x1.000000000001p0");
        lays(() -> Desks.fraction(7, 0, 0), "%.1a", "0x1.cp-1072");
        lays(() -> Desks.fraction(0x21, 0, 0), "%.1a", "0x1.0p-1069");
        lays(() -> Desks.fraction(0x23, 0, 0), "%.1a", "0x1.2p-1069");
    }

    private static void hexCarry() {
        CHECKS.sentence("a: (a first digit 2 becomes 1, the exponent 1 more)");
        lays(() -> Desks.fraction(ONE | 0xF800000000000L, 0, 0), "%.1a", "0x1.0p1", "%.2a", "0x1.f8p0");
        lays(() -> Desks.fraction(ONE | 0xFFFFFFFFFFFFFL, 0, 0), "%.1a", "0x1.0p1", "%.12a", "0x1.000000000000p1", "%.13a", "0x1.fffffffffffffp0");
        lays(() -> Desks.fraction(0x3FEFFFFFFFFFFFFFL, 0, 0), "%.1a", "0x1.0p0");
        lays(() -> Desks.fraction(INFINITE - 1, 0, 0), "%.1a", "0x1.0p1024", "%.12a", "0x1.000000000000p1024");
        lays(() -> Desks.fraction((1L << 52) - 1, 0, 0), "%.1a", "0x1.0p-1022", "%.12a", "0x1.000000000000p-1022");
    }

    private static void hexManyDigits() {
        CHECKS.sentence("a: all 52 bits are there with q above 13, and zeros");
        lays(() -> Desks.fraction(PI, 0, 0), "%.13a", "0x1.921fb54442d18p1", "%.14a", "0x1.921fb54442d180p1", "%.15a", "0x1.921fb54442d1800p1",
            "%.999a", "0x1.921fb54442d18" + "0".repeat(986) + "p1");
        lays(() -> Desks.fraction(ONE | 1, 0, 0), "%.14a", "0x1.00000000000010p0");
        lays(() -> Desks.fraction(1, 0, 0), "%.14a", "0x1." + "0".repeat(14) + "p-1074");
    }

    private static void noNumber() {
        CHECKS.sentence("NO NUMBER: NaN without zeros; NaN has no sign and no + or space");
        for (long bits : new long[] {INFINITE | 1, Long.MAX_VALUE, -1L, MINUS | INFINITE | 1}) {
            for (String c : new String[] {"e", "f", "g", "a"}) {
                lays(() -> Desks.fraction(bits, 5, 0), "%" + c, "NaN", "%+" + c, "NaN", "% " + c, "NaN", "%03" + c, "NaN", "%04" + c, " NaN",
                    "%+05" + c, "  NaN", "%-4" + c, "NaN ", "%.0" + c, "NaN", "%.1" + c, "NaN");
            }
            lays(() -> Desks.fraction(bits, 5, 0), "%(f", "NaN", "%(,#06.0f", "   NaN", "%#.0e", "NaN", "%E", "NAN", "%G", "NAN", "%A", "NAN");
        }
    }

    private static void infinite() {
        CHECKS.sentence("INFINITE: Infinity, PUT TOGETHER without zeros (the flag 0 does nothing then)");
        for (String c : new String[] {"e", "f", "g", "a"}) {
            lays(() -> Desks.fraction(INFINITE, 5, 0), "%" + c, "Infinity", "%+" + c, "+Infinity", "% " + c, " Infinity", "%08" + c, "Infinity",
                "%09" + c, " Infinity", "%+010" + c, " +Infinity", "%-9" + c, "Infinity ", "%.0" + c, "Infinity", "%.1" + c, "Infinity");
            lays(() -> Desks.fraction(MINUS | INFINITE, 5, 0), "%" + c, "-Infinity", "%+" + c, "-Infinity", "%09" + c, "-Infinity",
                "%010" + c, " -Infinity", "%-10" + c, "-Infinity ");
        }
        lays(() -> Desks.fraction(MINUS | INFINITE, 5, 0), "%(f", "(Infinity)", "%(010e", "(Infinity)", "%(011g", " (Infinity)", "%(-11f", "(Infinity) ",
            "%E", "-INFINITY", "%#.0f", "-Infinity");
    }

    private static void textOfFractionPlain() {
        CHECKS.sentence("THE TEXT of a FRACTION: with first digit's exponent x from -3 to 6: plain, at least one digit on both sides; otherwise E, x");
        Object[][] rows = {{1L, -3, "0.001"}, {1L, -4, "1.0E-4"}, {999L, -6, "9.99E-4"}, {999L, -5, "0.00999"}, {1L, -1, "0.1"}, {1L, 0, "1.0"},
            {1L, 6, "1000000.0"}, {1L, 7, "1.0E7"}, {9999999L, 0, "9999999.0"}, {99999995L, -1, "9999999.5"}, {10000001L, 0, "1.0000001E7"},
            {99999999999999999L, -10, "9999999.9999999999"}, {99999999999999999L, -9, "9.9999999999999999E7"},
            {99999999999999999L, -17, "0.99999999999999999"}, {99999999999999999L, -19, "0.0099999999999999999"},
            {99999999999999999L, -20, "9.9999999999999999E-4"}, {1L, 99, "1.0E99"}, {1L, 100, "1.0E100"}, {1L, -100, "1.0E-100"},
            {1L, 400, "1.0E400"}, {1L, -400, "1.0E-400"}, {99999999999999999L, 400, "9.9999999999999999E416"}};
        fractionTexts(rows);
    }

    private static void fractionTexts(Object[][] rows) {
        for (Object[] row : rows) {
            lays(() -> Desks.fraction(PI, (Long) row[0], (Integer) row[1]), "%s", (String) row[2]);
            lays(() -> Desks.fraction(MINUS, (Long) row[0], (Integer) row[1]), "%s", "-" + row[2]);
        }
    }

    private static void textOfFractionZeros() {
        CHECKS.sentence("THE TEXT of a FRACTION: without zeros at the end of the digits but where one is needed");
        Object[][] rows = {{10L, 0, "10.0"}, {100L, -2, "1.0"}, {1200L, -3, "1.2"}, {1200000L, 0, "1200000.0"}, {12000000L, 0, "1.2E7"},
            {10000000L, 0, "1.0E7"}, {10000000L, -1, "1000000.0"}, {10000000000000000L, -16, "1.0"}, {10000000000000000L, -20, "1.0E-4"},
            {10000000000000000L, -19, "0.001"}, {10100L, -4, "1.01"}, {10100L, 10, "1.01E14"}};
        fractionTexts(rows);
    }

    private static void textOfFractionZero() {
        CHECKS.sentence("THE TEXT of a FRACTION: d 0: 0.0; with - in front if its sign is minus");
        for (int t : new int[] {0, 1, -1, 7, -4, 400, -400}) {
            lays(() -> Desks.fraction(0, 0, t), "%s", "0.0");
            lays(() -> Desks.fraction(PI, 0, t), "%s", "0.0");
            lays(() -> Desks.fraction(MINUS, 0, t), "%s", "-0.0");
        }
    }

    private static void textBeyondNumbers() {
        CHECKS.sentence("THE TEXT of a FRACTION: NaN, Infinity (- in front if its sign is minus)");
        lays(() -> Desks.fraction(INFINITE, 0, 0), "%s", "Infinity", "%S", "INFINITY", "%9s", " Infinity");
        lays(() -> Desks.fraction(MINUS | INFINITE, 0, 0), "%s", "-Infinity", "%S", "-INFINITY");
        lays(() -> Desks.fraction(INFINITE | 1, 0, 0), "%s", "NaN", "%S", "NAN", "%-4s", "NaN ");
        lays(() -> Desks.fraction(-1L, 0, 0), "%s", "NaN");
    }

    private static void textOfDecimalPlain() {
        CHECKS.sentence("Of a DECIMAL: if SCALE is not below 0 and the exponent of the first digit is not below -6: plain, with SCALE digits behind the point");
        Object[][] rows = {{1L, 0, "1"}, {12L, 0, "12"}, {1L, 1, "0.1"}, {12L, 1, "1.2"}, {12L, 2, "0.12"}, {10L, 1, "1.0"}, {100L, 2, "1.00"},
            {1L, 6, "0.000001"}, {12L, 7, "0.0000012"}, {10L, 7, "0.0000010"}, {9999999L, 12, "0.000009999999"},
            {9999999L, 13, "9.999999E-7"}, {1L, 7, "1E-7"}, {12L, 8, "1.2E-7"}, {1L, -1, "1E+1"}, {12L, -1, "1.2E+2"}};
        decimalTexts(rows);
        lays(() -> Desks.greatest(true, 0), "%s", "-" + GREATEST);
        lays(() -> Desks.greatest(false, 154), "%s", "1." + GREATEST.substring(1));
        lays(() -> Desks.greatest(false, 155), "%s", "0." + GREATEST);
        lays(() -> Desks.greatest(false, 160), "%s", "0.00000" + GREATEST);
        lays(() -> Desks.greatest(false, 161), "%s", "1." + GREATEST.substring(1) + "E-7");
    }

    private static void decimalTexts(Object[][] rows) {
        for (Object[] row : rows) {
            lays(() -> Desks.decimal(false, (Long) row[0], (Integer) row[1]), "%s", (String) row[2]);
            lays(() -> Desks.decimal(true, (Long) row[0], (Integer) row[1]), "%s", "-" + row[2]);
        }
    }

    private static void textOfDecimalExponent() {
        CHECKS.sentence("Of a DECIMAL: otherwise the first digit, if there are others a point and these, E, + or - and the exponent");
        Object[][] rows = {{1L, 7, "1E-7"}, {10L, 8, "1.0E-7"}, {12L, 8, "1.2E-7"}, {1L, -1, "1E+1"}, {10L, -1, "1.0E+2"}, {1L, -9, "1E+9"},
            {1L, -10, "1E+10"}, {1L, -400, "1E+400"}, {1L, 400, "1E-400"}, {100L, -400, "1.00E+402"}, {100L, 400, "1.00E-398"},
            {1L, -99, "1E+99"}, {1L, -100, "1E+100"}};
        decimalTexts(rows);
        lays(() -> Desks.greatest(true, -400), "%s", "-1." + GREATEST.substring(1) + "E+554");
        lays(() -> Desks.greatest(true, 400), "%s", "-1." + GREATEST.substring(1) + "E-246");
    }

    private static void textOfDecimalZero() {
        CHECKS.sentence("Of a DECIMAL: (SIZE 0: -SCALE); with - in front if it is below 0");
        Object[][] rows = {{0, "0"}, {1, "0.0"}, {5, "0.00000"}, {6, "0.000000"}, {7, "0E-7"}, {8, "0E-8"}, {400, "0E-400"}, {-1, "0E+1"}, {-400, "0E+400"}};
        for (Object[] row : rows) {
            lays(() -> Desks.decimal(false, 0, (Integer) row[0]), "%s", (String) row[1]);
            lays(() -> Desks.decimal(true, 0, (Integer) row[0]), "%s", (String) row[1]);
        }
    }
}

import java.math.BigInteger;
import java.util.function.Supplier;

/** The boundary cases of LAYING OUT (promise 13) up to the whole numbers: one test for each sentence that names any. */
public final class BoundaryLayOutTest {
    private static final Checks CHECKS = new Checks();
    private static final long NO_NUMBER = 0x7FF8000000000000L;
    private static final String GREATEST = BigInteger.TWO.pow(512).subtract(BigInteger.ONE).toString();

    public static void main(String[] args) {
        theResultBecomesEmpty();
        aFaultAtOnce();
        indexNames();
        theOneBefore();
        theNextOne();
        indexOfMarks();
        kinds();
        characterNumbers();
        signsForBits();
        moreThan4000();
        theOrderOfTheFaults();
        filledUp();
        marks();
        nothing();
        nothingWithPrecision();
        flagsOfNothing();
        truths();
        truthsWithPrecision();
        texts();
        textsWithPrecision();
        characters();
        groups();
        bases();
        prefixes();
        signs();
        zeros();
        CHECKS.end();
    }

    private static void lays(Supplier<SpecifierDesk> desk, String... formatsAndTexts) {
        CHECKS.lays(desk, formatsAndTexts);
    }

    /** Arguments 1 to 12 are the texts a to l. */
    private static SpecifierDesk twelve() {
        SpecifierDesk desk = new SpecifierDesk();
        for (char c = 'a'; c <= 'l'; c++) {
            desk.write(c);
            desk.text();
        }
        return desk;
    }

    private static void theResultBecomesEmpty() {
        CHECKS.sentence("Then the RESULT becomes empty");
        SpecifierDesk desk = new SpecifierDesk();
        CHECKS.due("long", Checks.laidOut(desk, "abcdef"), "'abcdef'");
        desk.clear();
        CHECKS.due("shorter", Checks.laidOut(desk, "xy"), "'xy'");
        desk.clear();
        CHECKS.due("empty", Checks.laidOut(desk, ""), "''");
        CHECKS.due("none there", desk.characterAt(0), -1);
    }

    private static void aFaultAtOnce() {
        CHECKS.sentence("a fault is the answer at once, and the RESULT is empty then");
        String[][] rows = {{"10", "x%9$s"}, {"11", "x%d"}, {"12", "x%2$c"}, {"13", "x%2$+x"}, {"14", "x%999s%<999s%<999s%<999s%<4s"}};
        for (String[] row : rows) {
            SpecifierDesk desk = Desks.text("t");
            desk.whole(0, 8);
            CHECKS.due("before", Checks.laidOut(desk, "before"), "'before'");
            desk.text();
            CHECKS.due(row[1], Checks.laidOut(desk, row[1]), row[0]);
            CHECKS.due("length behind " + row[1], desk.length(), 0);
            CHECKS.due("characterAt behind " + row[1], desk.characterAt(0), -1);
        }
        CHECKS.faulty(() -> Desks.text("t"), 11, "%d%9$s");
        CHECKS.faulty(() -> Desks.text("t"), 10, "%9$s%1$d");
    }

    private static void indexNames() {
        CHECKS.sentence("the ARGUMENT that its INDEX names. 10 there is none such");
        lays(BoundaryLayOutTest::twelve, "%1$s", "a", "%12$s", "l", "%12$s%1$s%12$s", "lal");
        CHECKS.faulty(BoundaryLayOutTest::twelve, 10, "%13$s", "%999$s", "%12$s%13$s");
        CHECKS.faulty(() -> Desks.text("a"), 10, "%2$s", "%12$s");
        CHECKS.faulty(SpecifierDesk::new, 10, "%1$s", "%12$s");
    }

    private static void theOneBefore() {
        CHECKS.sentence("with < the one that the SPECIFIER before (other than % and n) had. 10 there is none such");
        lays(BoundaryLayOutTest::twelve, "%s%<s%<s", "aaa", "%12$s%<s", "ll", "%s%%%n%<s", "a%\na", "%3$s%<s%s%<s", "ccaa",
            "%2$s%5$%%<s", "b%b");
        CHECKS.faulty(BoundaryLayOutTest::twelve, 10, "%<s", "%%%<s", "%n%<s", "%1$%%<s", "%<s%s");
        CHECKS.faulty(SpecifierDesk::new, 10, "%<s");
    }

    private static void theNextOne() {
        CHECKS.sentence("without an INDEX the next one: the first such has ARGUMENT 1, the second one 2. 10 there is none such");
        lays(BoundaryLayOutTest::twelve, "%s".repeat(12), "abcdefghijkl", "%5$s%s%<s%7$s%s%%%s", "eaagb%c");
        CHECKS.faulty(BoundaryLayOutTest::twelve, 10, "%s".repeat(13));
        CHECKS.faulty(() -> Desks.text("a"), 10, "%s%s", "%1$s%s%s");
        CHECKS.faulty(SpecifierDesk::new, 10, "%s", "%d", "%a");
        SpecifierDesk again = twelve();
        CHECKS.due("the first time", Checks.laidOut(again, "%s%s%s"), "'abc'");
        CHECKS.due("it begins anew", Checks.laidOut(again, "%s"), "'abcd'");
    }

    private static void indexOfMarks() {
        CHECKS.sentence("(An INDEX with % or n counts for nothing.)");
        lays(SpecifierDesk::new, "%1$%", "%", "%999$%", "%", "%<%", "%", "%1$n", "\n", "%999$n", "\n", "%<n", "\n", "%<3%", "  %");
        lays(BoundaryLayOutTest::twelve, "%3$s%7$%%<s%9$n%<s", "c%c\nc", "%2$%%s%2$n%s", "%a\nb");
    }

    private static void kinds() {
        CHECKS.sentence("11 the ARGUMENT's KIND does not go with the CONVERSION");
        for (String kind : Desks.KINDS) {
            String goes = "bBsS" + switch (kind) {
                case "nothing" -> "cCdoxXeEfgGaA";
                case "character" -> "cC";
                case "short 8", "short 16", "short 32" -> "cCdoxX";
                case "short 64", "long" -> "doxX";
                case "decimal" -> "eEfgG";
                case "fraction" -> "eEfgGaA";
                default -> "";
            };
            for (char c : "bBsScCdoxXeEfgGaA".toCharArray()) {
                SpecifierDesk desk = Desks.of(kind);
                Checks.writeText(desk, "%" + c);
                CHECKS.due(kind + " with " + c, desk.layOut(), goes.indexOf(c) >= 0 ? 0 : 11);
            }
        }
    }

    private static void characterNumbers() {
        CHECKS.sentence("12 a SHORT WHOLE that (with its sign) is not 1 .. 126, with c");
        for (int width : new int[] {8, 16, 32}) {
            long all = 1L << width;
            for (long v : new long[] {0, -1, -126, 127, 128, -128, all, all - 1, all + 127, all / 2, -all / 2, -all, Long.MIN_VALUE}) {
                CHECKS.faulty(() -> Desks.whole(v, width), 12, "%c", "%C", "%5c");
            }
            lays(() -> Desks.whole(1, width), "%c", "\u0001");
            lays(() -> Desks.whole(126, width), "%c", "~");
            lays(() -> Desks.whole(all + 65, width), "%c", "A");
            lays(() -> Desks.whole(65 - all, width), "%c", "A");
        }
        CHECKS.faulty(() -> Desks.whole(129, 8), 12, "%c");
        CHECKS.faulty(() -> Desks.whole(255, 16), 12, "%c");
        CHECKS.faulty(() -> Desks.whole(65 + 256, 16), 12, "%c");
        CHECKS.faulty(() -> Desks.whole(65 + 65536, 32), 12, "%c");
        CHECKS.faulty(() -> Desks.whole(0, 64), 11, "%c");
    }

    private static void signsForBits() {
        CHECKS.sentence("13 + or space or (, with o or x and a SHORT WHOLE");
        for (int width : new int[] {8, 16, 32, 64}) {
            for (String flag : new String[] {"+", " ", "("}) {
                for (String c : new String[] {"o", "x", "X"}) {
                    CHECKS.faulty(() -> Desks.whole(0, width), 13, "%" + flag + c, "%#" + flag + "09" + c, "%-" + flag + "9" + c);
                    CHECKS.faulty(() -> Desks.whole(-1, width), 13, "%" + flag + c);
                }
                lays(() -> Desks.whole(-5, width), "%" + flag + "d", flag.equals("(") ? "(5)" : "-5");
            }
            lays(() -> Desks.whole(7, width), "%#x", "0x7", "%03o", "007", "%-2x|", "7 |");
        }
        lays(() -> Desks.size(true, 255), "%+x", "-ff", "% x", "-ff", "%(x", "(ff)", "%(o", "(377)");
        lays(Desks::nothing, "%+x", "null", "% o", "null", "%(X", "NULL");
        CHECKS.faulty(() -> Desks.text("a"), 11, "%+x", "%(o");
    }

    private static void moreThan4000() {
        CHECKS.sentence("14 the RESULT would have more than 4000 characters");
        String full = "%999%%999%%999%%999%";
        String has = (" ".repeat(998) + "%").repeat(4);
        Supplier<SpecifierDesk> desk = () -> Desks.text("abcde");
        lays(desk, full + "wxyz", has + "wxyz", full + "%4%", has + "   %", full + "%-4%", has + "%   ", full + "xyz%n", has + "xyz\n",
            full + "%.4s", has + "abcd", full + "%4.0s", has + "    ", full + "wxyz%.0s", has + "wxyz");
        CHECKS.faulty(desk, 14, full + "vwxyz", full + "%5%", full + "%-5%", full + "wxyz%n", full + "%s", full + "%5.0s", full + "%-5.1s",
            full + "wxyz%%", full + "%999%", full + full);
        lays(() -> Desks.whole(-12, 8), full + "%04d", has + "-012", full + "%(d", has + "(12)", full + "%(4d", has + "(12)");
        CHECKS.faulty(() -> Desks.whole(-12, 8), 14, full + "%05d", full + "%(05d", full + "x%(d");
        lays(Desks::nothing, full + "%s", has + "null", full + "%c", has + "null");
        CHECKS.faulty(Desks::nothing, 14, full + "%b", full + "x%s");
        CHECKS.faulty(() -> Desks.text("t".repeat(400)), 14, "%s" + "%<s".repeat(10));
        lays(() -> Desks.text("t".repeat(400)), "%s" + "%<s".repeat(9), "t".repeat(4000));
    }

    private static void theOrderOfTheFaults() {
        CHECKS.sentence("the faults 10 to 14 of one SPECIFIER in their order, and of the first one first");
        String full = "%999%%999%%999%%999%wxyz";
        CHECKS.faulty(() -> Desks.text("a"), 10, full + "%9$s");
        CHECKS.faulty(() -> Desks.text("a"), 11, full + "%d", full + "%5d");
        CHECKS.faulty(() -> Desks.whole(0, 8), 12, full + "%c");
        CHECKS.faulty(() -> Desks.whole(0, 8), 13, full + "%+x");
        CHECKS.faulty(() -> Desks.text("a"), 14, full + "x%9$s", full + "%s%d", full + "%%%9$s");
        CHECKS.faulty(() -> Desks.whole(200, 64), 11, "%c");
    }

    private static void filledUp() {
        CHECKS.sentence("What is laid out in fewer characters than WIDTH says is filled up with spaces, in front, or behind with -");
        lays(() -> Desks.text("abc"), "%1s", "abc", "%2s", "abc", "%3s", "abc", "%4s", " abc", "%-1s", "abc", "%-3s", "abc", "%-4s", "abc ",
            "%999s", " ".repeat(996) + "abc", "%-999s", "abc" + " ".repeat(996), "%4.2s", "  ab", "%-2.2s", "ab", "%-3.2S", "AB ");
        lays(() -> Desks.text(""), "%s", "", "%1s", " ", "%-1s", " ");
        lays(() -> Desks.whole(-12, 8), "%2d", "-12", "%3d", "-12", "%4d", " -12", "%-4d", "-12 ", "%(4d", "(12)", "%(5d", " (12)", "%(-5d", "(12) ");
        lays(() -> Desks.whole(-1, 8), "%3x", " ff", "%#4x", "0xff", "%#5x", " 0xff", "%-#5x", "0xff ");
        lays(() -> Desks.decimal(false, 5, 1), "%.1f", "0.5", "%3.1f", "0.5", "%4.1f", " 0.5", "%-4.1f", "0.5 ", "%8.1e", " 5.0e-01",
            "%7.1e", "5.0e-01", "%-8.1e", "5.0e-01 ", "%4.1g", " 0.5", "%-4.1g", "0.5 ");
        lays(() -> Desks.fraction(0x3FF0000000000000L, 1, 0), "%7a", "0x1.0p0", "%8a", " 0x1.0p0", "%-8a", "0x1.0p0 ");
        lays(() -> Desks.truth(true), "%4b", "true", "%5b", " true", "%-5b", "true ");
        lays(() -> Desks.character('q'), "%1c", "q", "%2c", " q", "%-2c", "q ");
    }

    private static void marks() {
        CHECKS.sentence("n: the character 10. %: a %, filled up");
        lays(SpecifierDesk::new, "%n", String.valueOf((char) 10), "%%", "%", "%1%", "%", "%2%", " %", "%-2%", "% ", "%999%", " ".repeat(998) + "%");
    }

    private static void nothing() {
        CHECKS.sentence("NOTHING: with b: false; otherwise null");
        lays(Desks::nothing, "%b", "false", "%B", "FALSE");
        for (char c : "scdoxefga".toCharArray()) {
            lays(Desks::nothing, "%" + c, "null", "%5" + c, " null", "%4" + c, "null", "%-5" + c, "null ");
        }
        for (char c : "SCXEGA".toCharArray()) {
            lays(Desks::nothing, "%" + c, "NULL");
        }
    }

    private static void nothingWithPrecision() {
        CHECKS.sentence("with PRECISION p (b and s alone) the first p characters of that");
        lays(Desks::nothing, "%.0b", "", "%.1b", "f", "%.4b", "fals", "%.5b", "false", "%.6b", "false", "%.4B", "FALS", "%.0s", "", "%.3s", "nul",
            "%.4s", "null", "%.5s", "null", "%.1S", "N", "%3.0s", "   ", "%-4.3b", "fal ");
        for (char c : "efga".toCharArray()) {
            lays(Desks::nothing, "%.0" + c, "null", "%.3" + c, "null", "%6.1" + c, "  null");
        }
    }

    private static void flagsOfNothing() {
        CHECKS.sentence("The flags of NOTHING are not looked at but -");
        lays(Desks::nothing, "%06d", "  null", "%+d", "null", "% d", "null", "%(d", "null", "%,d", "null", "%+(,06d", "  null", "%#x", "null",
            "%#06x", "  null", "%#o", "null", "%#.0e", "null", "%#(,+012.1f", "        null", "%+06g", "  null", "%#+06a", "  null",
            "%-+(,6d", "null  ", "%-#6X", "NULL  ");
    }

    private static void truths() {
        CHECKS.sentence("b: true or false for a TRUTH, true for all others");
        lays(() -> Desks.truth(true), "%b", "true");
        lays(() -> Desks.truth(false), "%b", "false");
        lays(() -> Desks.text(""), "%b", "true");
        lays(() -> Desks.text("false"), "%b", "true");
        lays(() -> Desks.character(1), "%b", "true");
        lays(() -> Desks.whole(0, 8), "%b", "true");
        lays(() -> Desks.whole(0, 64), "%b", "true");
        lays(() -> Desks.size(true, 0), "%b", "true");
        lays(() -> Desks.decimal(true, 0, 400), "%b", "true");
        lays(() -> Desks.fraction(0, 0, 0), "%b", "true");
        lays(() -> Desks.fraction(NO_NUMBER, 0, 0), "%b", "true");
        lays(() -> Desks.fraction(0xFFF0000000000000L, 0, 0), "%B", "TRUE");
    }

    private static void truthsWithPrecision() {
        CHECKS.sentence("b: with PRECISION p the first p characters of that");
        lays(() -> Desks.truth(true), "%.0b", "", "%.1b", "t", "%.3b", "tru", "%.4b", "true", "%.5b", "true", "%.999b", "true", "%2.0b", "  ");
        lays(() -> Desks.truth(false), "%.0b", "", "%.4b", "fals", "%.5b", "false", "%.6b", "false");
        lays(() -> Desks.text("false"), "%.3b", "tru");
        lays(() -> Desks.fraction(NO_NUMBER, 0, 0), "%.2b", "tr");
    }

    private static void texts() {
        CHECKS.sentence("s: the ARGUMENT's TEXT: true or false, the CHARACTER, a WHOLE's digits with - if it is below 0, the TEXT");
        lays(() -> Desks.truth(true), "%s", "true");
        lays(() -> Desks.truth(false), "%s", "false");
        lays(() -> Desks.character(1), "%s", "\u0001");
        lays(() -> Desks.character(126), "%s", "~");
        lays(() -> Desks.whole(0, 8), "%s", "0");
        lays(() -> Desks.whole(-1, 8), "%s", "-1");
        lays(() -> Desks.whole(-128, 8), "%s", "-128");
        lays(() -> Desks.whole(Long.MIN_VALUE, 64), "%s", "-9223372036854775808");
        lays(() -> Desks.size(true, 0), "%s", "0");
        lays(() -> Desks.size(true, 1), "%s", "-1");
        lays(() -> Desks.greatest(true), "%s", "-" + GREATEST);
        lays(() -> Desks.text(""), "<%s>", "<>");
        lays(() -> Desks.text("u".repeat(400)), "%s", "u".repeat(400));
    }

    private static void textsWithPrecision() {
        CHECKS.sentence("s: With PRECISION p the first p characters");
        lays(() -> Desks.text("abc"), "%.0s", "", "%.1s", "a", "%.2s", "ab", "%.3s", "abc", "%.4s", "abc", "%.999s", "abc", "%3.0s", "   ");
        lays(() -> Desks.text(""), "%.0s", "", "%.1s", "");
        lays(() -> Desks.text("u".repeat(400)), "%.399s", "u".repeat(399), "%.400s", "u".repeat(400), "%.401s", "u".repeat(400));
        lays(() -> Desks.truth(false), "%.4s", "fals", "%.5s", "false");
        lays(() -> Desks.character('q'), "%.0s", "", "%.1s", "q");
        lays(() -> Desks.whole(-12, 8), "%.0s", "", "%.1s", "-", "%.3s", "-12", "%.4s", "-12");
        lays(() -> Desks.size(true, 12), "%.2s", "-1");
        lays(() -> Desks.decimal(true, 12, 1), "%.2s", "-1", "%.3s", "-1.", "%.4s", "-1.2");
        lays(() -> Desks.fraction(Long.MIN_VALUE, 12, -1), "%.0s", "", "%.3s", "-1.", "%.5s", "-1.2");
        lays(() -> Desks.fraction(NO_NUMBER, 12, -1), "%.2s", "Na");
        lays(() -> Desks.fraction(0xFFF0000000000000L, 12, -1), "%.2s", "-I", "%.9s", "-Infinity");
    }

    private static void characters() {
        CHECKS.sentence("c: the CHARACTER, or the one of that number");
        for (int c = 1; c <= 126; c++) {
            int number = c;
            String letter = String.valueOf((char) c);
            lays(() -> Desks.character(number), "%c", letter);
            lays(() -> Desks.whole(number, 8), "%c", letter);
            String great = c >= 'a' && c <= 'z' ? String.valueOf((char) (c - 32)) : letter;
            lays(() -> Desks.whole(number, 32), "%C", great);
        }
    }

    private static void groups() {
        CHECKS.sentence("d: the digits of the size; with , in GROUPS: a comma between each three of them from the right");
        String[][] rows = {{"0", "0"}, {"9", "9"}, {"99", "99"}, {"100", "100"}, {"999", "999"}, {"1000", "1,000"}, {"99999", "99,999"},
            {"999999", "999,999"}, {"1000000", "1,000,000"}, {"9223372036854775807", "9,223,372,036,854,775,807"}};
        for (String[] row : rows) {
            long v = Long.parseLong(row[0]);
            lays(() -> Desks.whole(v, 64), "%d", row[0], "%,d", row[1], "%+,d", "+" + row[1]);
            lays(() -> Desks.size(false, v), "%,d", row[1]);
            if (v != 0) {
                lays(() -> Desks.whole(-v, 64), "%,d", "-" + row[1], "%(,d", "(" + row[1] + ")");
            }
        }
        lays(() -> Desks.whole(Long.MIN_VALUE, 64), "%,d", "-9,223,372,036,854,775,808");
        lays(() -> Desks.whole(1234, 16), "%,05d", "1,234", "%,06d", "01,234", "%,09d", "00001,234");
        lays(() -> Desks.greatest(true), "%d", "-" + GREATEST, "%,d", "-" + String.format("%,d", new BigInteger(GREATEST)));
    }

    private static void bases() {
        CHECKS.sentence("o, x: a LONG WHOLE: its size to the base 8, 16, with its sign. A SHORT WHOLE: its bits as a number without one");
        lays(() -> Desks.size(true, 0), "%x", "0", "%o", "0", "%+x", "+0", "%(o", "0");
        lays(() -> Desks.size(true, 8), "%o", "-10", "%x", "-8");
        lays(() -> Desks.size(false, 7), "%o", "7");
        lays(() -> Desks.size(false, 9), "%x", "9");
        lays(() -> Desks.size(false, 10), "%x", "a");
        lays(() -> Desks.size(false, 15), "%x", "f");
        lays(() -> Desks.size(false, 16), "%x", "10");
        lays(() -> Desks.size(true, -1), "%x", "-" + "f".repeat(16));
        lays(() -> Desks.size(false, 1, 0), "%x", "1" + "0".repeat(16), "%o", "2" + "0".repeat(21));
        lays(() -> Desks.greatest(true), "%x", "-" + "f".repeat(128), "%o", "-3" + "7".repeat(170));
        Object[][] rows = {{8, "80", "200", "ff", "377"}, {16, "8000", "100000", "ffff", "177777"},
            {32, "80000000", "20000000000", "ffffffff", "37777777777"},
            {64, "8000000000000000", "1000000000000000000000", "ffffffffffffffff", "1777777777777777777777"}};
        for (Object[] row : rows) {
            int width = (Integer) row[0];
            lays(() -> Desks.whole(-1L << width - 1, width), "%x", (String) row[1], "%o", (String) row[2]);
            lays(() -> Desks.whole(-1, width), "%x", (String) row[3], "%o", (String) row[4]);
            lays(() -> Desks.whole(0, width), "%x", "0", "%o", "0");
        }
    }

    private static void prefixes() {
        CHECKS.sentence("with # 0, or 0x, stands in front of the digits (behind the sign)");
        lays(() -> Desks.whole(0, 8), "%#x", "0x0", "%#o", "00", "%#X", "0X0");
        lays(() -> Desks.whole(-1, 8), "%#x", "0xff", "%#o", "0377", "%#X", "0XFF");
        lays(() -> Desks.size(true, 255), "%#x", "-0xff", "%#o", "-0377", "%(#x", "(0xff)", "%(#o", "(0377)");
        lays(() -> Desks.size(false, 255), "%+#x", "+0xff", "% #o", " 0377", "%(#x", "0xff");
    }

    private static void signs() {
        CHECKS.sentence("PUT TOGETHER: a number below 0: - and the body, or with ( the body in ( ). Others: + or space and the body, else the body");
        lays(() -> Desks.whole(-1, 8), "%d", "-1", "%+d", "-1", "% d", "-1", "%(d", "(1)", "%+(d", "(1)", "% (d", "(1)");
        lays(() -> Desks.whole(0, 8), "%d", "0", "%+d", "+0", "% d", " 0", "%(d", "0", "%+(d", "+0", "% (d", " 0");
        lays(() -> Desks.whole(1, 8), "%d", "1", "%+d", "+1", "% d", " 1", "%(d", "1", "%+(d", "+1");
        lays(() -> Desks.size(true, 1), "%d", "-1", "%(d", "(1)", "%(x", "(1)");
        lays(() -> Desks.size(true, 0), "%d", "0", "%+d", "+0", "%(d", "0");
        lays(() -> Desks.decimal(true, 0, 3), "%.1f", "0.0", "%+.1f", "+0.0", "%(.1f", "0.0", "%.1e", "0.0e+00", "%.1g", "0");
        lays(() -> Desks.decimal(true, 1, 3), "%.1f", "-0.0", "%+.1f", "-0.0", "%(.1f", "(0.0)");
        lays(() -> Desks.fraction(Long.MIN_VALUE, 0, 3), "%.1f", "-0.0", "%(.1f", "(0.0)", "% .1e", "-0.0e+00", "%(.1g", "(0)", "%+a", "-0x0.0p0");
    }

    private static void zeros() {
        CHECKS.sentence("With 0 so many zeros come in front of the body's first digit that all has as many characters as WIDTH says");
        lays(() -> Desks.whole(-12, 8), "%01d", "-12", "%03d", "-12", "%04d", "-012", "%(03d", "(12)", "%(04d", "(12)", "%(05d", "(012)",
            "%(06d", "(0012)", "%0999d", "-" + "0".repeat(996) + "12");
        lays(() -> Desks.whole(7, 8), "%01d", "7", "%02d", "07", "%+02d", "+7", "%+03d", "+07", "% 02d", " 7", "% 03d", " 07", "%(03d", "007");
        lays(() -> Desks.whole(0, 8), "%01d", "0", "%02d", "00");
        lays(() -> Desks.whole(-1, 8), "%#04x", "0xff", "%#05x", "0x0ff", "%#04o", "0377", "%#05o", "00377", "%02x", "ff", "%03x", "0ff", "%#05X", "0X0FF");
        lays(() -> Desks.size(true, 255), "%(#06x", "(0xff)", "%(#07x", "(0x0ff)", "%#05x", "-0xff", "%#06x", "-0x0ff", "%(#07o", "(00377)");
        lays(() -> Desks.decimal(true, 25, 1), "%04.1f", "-2.5", "%05.1f", "-02.5", "%(05.1f", "(2.5)", "%(06.1f", "(02.5)", "%08.1e", "-2.5e+00",
            "%09.1e", "-02.5e+00", "%(011.1e", "(002.5e+00)", "%05.2g", "-02.5");
        lays(() -> Desks.fraction(0xBFF0000000000000L, 1, 0), "%08a", "-0x1.0p0", "%09a", "-0x01.0p0", "%012.1A", "-0X00001.0P0");
    }
}

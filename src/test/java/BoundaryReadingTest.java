/** The boundary cases of FORMAT, SPECIFIER, CONVERSIONS and READING (promise 13): one test for each sentence that names any. */
public final class BoundaryReadingTest {
    private static final Checks CHECKS = new Checks();
    private static final String FLAGS = "-#+ 0,(";
    private static final String CONVERSIONS = "bscdoxefgaBSCXEGA%n";
    private static final String NUMERIC = "doxefgaXEGA";

    public static void main(String[] args) {
        plainCharacters();
        indexFirstDigit();
        indexOrWidth();
        before();
        flagZeroBeforeWidth();
        theOrderOfTheParts();
        precisionDigits();
        conversions();
        greatLetters();
        allAreReadFirst();
        theFirstThatHasAny();
        theResultStays();
        formatEndsWithin();
        noDigitBehindThePoint();
        above999();
        flagTwice();
        unknownConversion();
        lineEnd();
        percent();
        withoutPrecision();
        noWidth();
        flagsAgainstEachOther();
        foreignFlags();
        CHECKS.end();
    }

    private static SpecifierDesk desk() {
        return Desks.nothing();
    }

    private static void lays(String... formatsAndTexts) {
        CHECKS.lays(BoundaryReadingTest::desk, formatsAndTexts);
    }

    private static void faulty(int fault, String... formats) {
        CHECKS.faulty(BoundaryReadingTest::desk, fault, formats);
    }

    /** Arguments 1 to 12 are the texts a to l. */
    private static SpecifierDesk twelve() {
        SpecifierDesk desk = new SpecifierDesk();
        for (char c = 'a'; c <= 'l'; c++) {
            desk.write(c);
            desk.text();
        }
        return desk;
    }

    private static void plainCharacters() {
        CHECKS.sentence("A SPECIFIER begins with % (a plain character is any other one)");
        lays("", "");
        for (char c = 1; c <= 126; c++) {
            if (c != '%') {
                lays(String.valueOf(c), String.valueOf(c), c + "%%" + c, c + "%" + c);
            }
        }
        lays("%%d", "%d", "%5%d", "    %d", "%%%%", "%%", "x".repeat(398) + "%%", "x".repeat(398) + "%");
    }

    private static void indexFirstDigit() {
        CHECKS.sentence("an INDEX or none: DIGITS (0 .. 9, the first one not 0) and $");
        CHECKS.lays(BoundaryReadingTest::twelve, "%1$s", "a", "%9$s", "i", "%10$s", "j", "%12$s", "l", "%s", "a");
        CHECKS.faulty(BoundaryReadingTest::twelve, 4, "%0$s", "%01$s", "%010$s", "%$s");
        CHECKS.faulty(BoundaryReadingTest::twelve, 3, "%00$s", "%001$s");
    }

    private static void indexOrWidth() {
        CHECKS.sentence("DIGITS are an INDEX just when $ is behind them");
        CHECKS.lays(BoundaryReadingTest::twelve, "%2$s", "b", "%2s", " a", "%2$3s", "  b", "%2$-3s|", "b  |", "%12s", " ".repeat(11) + "a",
            "%2$ss", "bs");
        CHECKS.faulty(BoundaryReadingTest::twelve, 4, "%1$2$s", "%-2$s", "%<2$s", "%2 $s");
    }

    private static void before() {
        CHECKS.sentence("or <");
        CHECKS.lays(BoundaryReadingTest::twelve, "%s%<s", "aa", "%s%<-3s|", "aa  |", "%s%<3s", "a  a", "%s%<.0s", "a");
        CHECKS.faulty(BoundaryReadingTest::twelve, 4, "%s%<<s", "%s%<1$s", "%s%1$<s", "%s%-<5s", "%s%5<s", "%s%<$s");
    }

    private static void flagZeroBeforeWidth() {
        CHECKS.sentence("A flag 0 is taken before a WIDTH (a WIDTH's first digit is not 0)");
        CHECKS.lays(() -> Desks.whole(5, 8), "%03d", "005", "%1$03d", "005", "%10d", "         5", "%010d", "0000000005", "%01d", "5",
            "%+03d", "+05", "%0+3d", "+05");
        CHECKS.faulty(() -> Desks.whole(5, 8), 8, "%0d", "%1$0d");
        CHECKS.faulty(() -> Desks.whole(5, 8), 3, "%00d", "%005d");
    }

    private static void theOrderOfTheParts() {
        CHECKS.sentence("Behind that, in this order: INDEX, FLAGS, WIDTH, PRECISION, the CONVERSION");
        CHECKS.lays(() -> Desks.decimal(true, 12345, 1), "%1$(,012.2f|", "(001,234.50)|", "%1$#(,012.0f|", "(00001,235.)|", "%1$-12.2f|",
            "-1234.50    |");
        CHECKS.lays(() -> Desks.decimal(false, 12345, 1), "%0,+#12.1f", "+00001,234.5", "%#,( 012.1f", " 00001,234.5");
        faulty(4, "%5-s", "%5#x", "%5+d", "%5 d", "%5,d", "%5(d", "%.1-s", "%.10-5s", "%.1.2f", "%-5.1$s");
    }

    private static void precisionDigits() {
        CHECKS.sentence("a PRECISION or none: a point and DIGITS");
        lays("%.0s|", "|", "%.00s|", "|", "%.1s", "n", "%.01s", "n", "%.003s", "nul", "%.10s", "null",
            "%." + "0".repeat(390) + "2s", "nu");
    }

    private static void conversions() {
        CHECKS.sentence("CONVERSIONS: b s c d o x e f g a, the great letters B S C X E G A, and % and n");
        for (char c = 1; c <= 126; c++) {
            String format = "%" + c;
            if (CONVERSIONS.indexOf(c) >= 0) {
                CHECKS.due(format, laidOutFault(format), 0);
            } else {
                boolean part = (FLAGS + "123456789.<").indexOf(c) >= 0;
                faulty(part ? 1 : 4, format);
                // Behind a width and a precision every other character is the conversion.
                faulty(4, "%5.1" + (c >= '0' && c <= '9' ? "y" : String.valueOf(c)));
            }
        }
    }

    private static int laidOutFault(String format) {
        SpecifierDesk desk = desk();
        Checks.writeText(desk, format);
        return desk.layOut();
    }

    private static void greatLetters() {
        CHECKS.sentence("A great letter lays out as the small one, and then all small letters of what it gives become great");
        CHECKS.lays(() -> Desks.text("az`{@AZ[~\u00010"), "%S", "AZ`{@AZ[~\u00010", "%s", "az`{@AZ[~\u00010", "az%.2Sza", "azAZza");
        CHECKS.lays(() -> Desks.truth(true), "%B", "TRUE", "%.1B", "T", "%S", "TRUE");
        CHECKS.lays(() -> Desks.character('z'), "%C%1$c", "Zz");
        CHECKS.lays(() -> Desks.whole(-1, 8), "%X", "FF", "%#X", "0XFF", "%#06X", "0X00FF");
        CHECKS.lays(() -> Desks.decimal(false, 1, 9), "%.1E", "1.0E-09", "%.1G", "1E-09", "%S", "1E-9");
        CHECKS.lays(() -> Desks.fraction(0x3FFA000000000000L, 0, 0), "%A", "0X1.AP0");
        CHECKS.lays(() -> Desks.fraction(0x7FF0000000000000L, 0, 0), "%E %1$G %1$A", "INFINITY INFINITY INFINITY");
    }

    private static void allAreReadFirst() {
        CHECKS.sentence("First all SPECIFIERS are read");
        faulty(4, "%9$s%y", "%s%s%y", "%<s%y", "%999%%999%%999%%999%%999%%y");
        CHECKS.faulty(() -> Desks.text("x"), 4, "%d%y", "%s%d%<y");
        CHECKS.faulty(() -> Desks.whole(0, 8), 4, "%c%y", "%+x%y");
    }

    private static void theFirstThatHasAny() {
        CHECKS.sentence("the first fault of the first one that has any is the answer");
        faulty(9, "%s%#s%y%");
        faulty(5, "%%%n%5n%1000s");
        faulty(8, "%-s%--s%1000s%");
        faulty(1, "%s%.s%#s", "%d %");
    }

    private static void theResultStays() {
        CHECKS.sentence("and RESULT stays as it was");
        String[][] rows = {{"1", "x%"}, {"2", "x%1000s"}, {"3", "x%--5s"}, {"4", "x%y"}, {"5", "x%5n"}, {"6", "x%.1n"}, {"7", "x%-n"},
            {"8", "x%-s"}, {"9", "x%#s"}};
        for (String[] row : rows) {
            SpecifierDesk desk = desk();
            Checks.laidOut(desk, "before");
            desk.clear();
            CHECKS.due(row[1], Checks.laidOut(desk, row[1]), row[0]);
            CHECKS.due("the result behind " + row[1], Checks.resultOf(desk), "before");
        }
        SpecifierDesk fresh = desk();
        CHECKS.due("on an empty result", Checks.laidOut(fresh, "x%y"), "4");
        CHECKS.due("the empty result", fresh.length(), 0);
    }

    private static void formatEndsWithin() {
        CHECKS.sentence("1 the FORMAT ends within it");
        faulty(1, "%", "x%", "%1", "%12", "%1$", "%<", "%-", "%1$-", "%<0", "%0", "%5", "%-5", "%5.", "%5.1", "%.", "%.0", "%1$-5.3", "%%%",
            "%s%", "x".repeat(399) + "%", "x".repeat(398) + "%-");
        // It stands before all other faults.
        faulty(1, "%1000", "%1000$", "%.1000", "%--", "%--5", "%+ ", "%-0", "%0,");
    }

    private static void noDigitBehindThePoint() {
        CHECKS.sentence("1 or there is no digit behind the point");
        faulty(1, "%.s", "%.-5s", "%.$s", "%.%", "%..5s", "%5.s", "%1$.s", "%.n", "%. 5s", "%.y", "%.<s", "%5.s5");
        faulty(1, "%1000.s", "%1000$.s", "%--.s", "%#.s", "%+ .d", "%-.s");
    }

    private static void above999() {
        CHECKS.sentence("2 INDEX, WIDTH or PRECISION is above 999");
        faulty(10, "%999$s");
        lays("%999s", " ".repeat(995) + "null", "%.999s", "null", "%.0999s", "null", "%999$%", "%", "%999$n", "\n", "%999%", " ".repeat(998) + "%");
        for (String many : new String[] {"1000", "1001", "9990", "2147483648", "4294967296", "4294967297", "9223372036854775809",
            "18446744073709551617", "1" + "0".repeat(380)}) {
            faulty(2, "%" + many + "$s", "%" + many + "s", "%." + many + "s", "%.0" + many + "s", "%" + many + "$%", "%" + many + "$n");
        }
        // It stands before the faults behind it.
        faulty(2, "%1000$--5s", "%--1000s", "%1000y", "%1000$y", "%.1000y", "%1000n", "%1000$5n", "%.1000n", "%.1000d", "%.1000%", "%-.1000s",
            "%#1000s", "%+ 1000d");
    }

    private static void flagTwice() {
        CHECKS.sentence("3 a flag stands twice");
        for (char flag : FLAGS.toCharArray()) {
            String twice = "%" + flag + flag;
            String other = flag == '#' ? "," : "#";
            faulty(3, twice + "5f", twice + flag + "5f", "%" + flag + other + flag + "5f", "%1$" + other + flag + flag + "5f", twice + "f");
            faulty(3, twice + "5y", twice + "5n", twice + ".1n", twice + "n", twice + ".1d", twice + "5%", twice + "s", twice + "5s", twice + ".1c");
        }
        CHECKS.lays(() -> Desks.whole(5, 8), "%010d", "0000000005", "%0100d", "0".repeat(99) + "5");
    }

    private static void unknownConversion() {
        CHECKS.sentence("4 the CONVERSION is none of these");
        faulty(4, "%y", "%D", "%O", "%F", "%N", "%h", "%H", "%t", "%T", "%i", "%u", "%$", "%\u0001", "%~", "%\n", "%1$y", "%<y");
        faulty(4, "%-y", "%0y", "%#y", "%.1y", "%5y", "%5.1y", "%+ y", "%-0y", "%+ 5D", "%-F", "%5N", "%.1N", "%-N", "%.1D");
    }

    private static void lineEnd() {
        CHECKS.sentence("With n: 5 there is a WIDTH; 6 a PRECISION; 7 a flag");
        faulty(5, "%5n", "%1n", "%5.1n", "%-5n", "%05n", "%-5.1n", "%1$5n");
        faulty(6, "%.1n", "%.0n", "%-.1n", "%#.1n", "%<.1n");
        for (char flag : FLAGS.toCharArray()) {
            faulty(7, "%" + flag + "n", "%1$" + flag + "n");
        }
        faulty(7, "%-0n", "%+ n");
        lays("%n", "\n", "%1$n", "\n", "%<n", "\n");
    }

    private static void percent() {
        CHECKS.sentence("With %: 6 a PRECISION; 7 a flag other than -");
        faulty(6, "%.1%", "%.0%", "%5.1%", "%-5.1%", "%-.1%", "%#.1%", "%0.1%");
        for (char flag : FLAGS.substring(1).toCharArray()) {
            faulty(7, "%" + flag + "%", "%" + flag + "5%", "%-" + flag + "5%", "%" + flag + "-%");
        }
        lays("%%", "%", "%1%", "%", "%2%", " %", "%-2%", "% ", "%-1%", "%", "%1$-2%", "% ");
    }

    private static void withoutPrecision() {
        CHECKS.sentence("With c, C, d, o, x and X: 6 a PRECISION");
        for (char c : "cCdoxX".toCharArray()) {
            faulty(6, "%.1" + c, "%.0" + c, "%.999" + c, "%5.1" + c, "%-.1" + c, "%0.1" + c, "%#.1" + c, "%+ .1" + c, "%-05.1" + c, "%,5.1" + c);
        }
        for (char c : "bsefgaBSEGA".toCharArray()) {
            CHECKS.due("%.1" + c, laidOutFault("%.1" + c), 0);
        }
    }

    private static void noWidth() {
        CHECKS.sentence("With all but n: 8 there is - (or 0, with the numeric ones), but no WIDTH");
        for (char c : CONVERSIONS.replace("n", "").toCharArray()) {
            faulty(8, "%-" + c, "%1$-" + c, "%<-" + c);
            CHECKS.due("%-1" + c, laidOutFault("%-1" + c), 0);
        }
        for (char c : NUMERIC.toCharArray()) {
            faulty(8, "%0" + c, "%1$0" + c, "%+0" + c);
            // It stands before the faults 7 and 9 of these.
            faulty(8, "%-0" + c, "%0-" + c, "%-+ " + c, "%0+ " + c);
            faulty(8, "%-" + foreignFlag(c) + c, "%0" + foreignFlag(c) + c);
            CHECKS.due("%01" + c, laidOutFault("%01" + c), 0);
        }
        for (char c : "bscBSC".toCharArray()) {
            faulty(8, "%-0" + c, "%-#" + c, "%-+ " + c);
            faulty(9, "%0" + c);
        }
        for (char c : "bsefgaBSEGA".toCharArray()) {
            // A precision is no width.
            faulty(8, "%-.5" + c);
        }
        faulty(8, "%0.5f", "%0.5e", "%0.5g", "%0.5a");
        faulty(7, "%-n", "%0%");
    }

    /** A flag that the numeric conversion does not have; f has all, so none there. */
    private static String foreignFlag(char c) {
        return c == 'd' || c == 'g' || c == 'G' ? "#" : c == 'f' ? "" : ",";
    }

    private static void flagsAgainstEachOther() {
        CHECKS.sentence("With d, o, x, e, f, g, a and their great letters: 7 + and space both, or - and 0 both");
        for (char c : NUMERIC.toCharArray()) {
            faulty(7, "%+ " + c, "% +" + c, "%+ 5" + c, "%-05" + c, "%0-5" + c, "%-0+ 5" + c, "%+0 5" + c, "%0+-5" + c);
            // It stands before fault 9.
            faulty(7, "%+ " + foreignFlag(c) + "5" + c, "%-" + foreignFlag(c) + "05" + c);
            CHECKS.due("%+05" + c, laidOutFault("%+05" + c), 0);
            CHECKS.due("% 05" + c, laidOutFault("% 05" + c), 0);
            CHECKS.due("%-+5" + c, laidOutFault("%-+5" + c), 0);
            CHECKS.due("%- 5" + c, laidOutFault("%- 5" + c), 0);
        }
        for (char c : "bscBSC".toCharArray()) {
            faulty(9, "%+ " + c, "%+ 5" + c, "%-05" + c);
        }
    }

    private static void foreignFlags() {
        CHECKS.sentence("9 a flag that the CONVERSION does not have");
        String[][] has = {{"bscBSC", "-"}, {"d", "-+ 0,("}, {"oxX", "-#+ 0("}, {"eE", "-#+ 0("}, {"f", "-#+ 0,("}, {"gG", "-+ 0,("},
            {"aA", "-#+ 0"}};
        for (String[] row : has) {
            for (char c : row[0].toCharArray()) {
                for (char flag : FLAGS.toCharArray()) {
                    String format = "%" + flag + "5" + c;
                    CHECKS.due(format, laidOutFault(format), row[1].indexOf(flag) >= 0 ? 0 : 9);
                    String unfilled = "%" + flag + c;
                    boolean filling = flag == '-' || flag == '0' && NUMERIC.indexOf(c) >= 0;
                    CHECKS.due(unfilled, laidOutFault(unfilled), filling ? 8 : row[1].indexOf(flag) >= 0 ? 0 : 9);
                }
            }
        }
    }
}

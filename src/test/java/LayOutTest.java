/** Promise 13 by hand: the faults of reading and of laying out, and every conversion. */
public final class LayOutTest {
    private static final Checks CHECKS = new Checks();
    private static final long PI = 0x400921FB54442D18L;
    private static final long MINUS = Long.MIN_VALUE;
    private static final long INFINITE = 0x7FF0000000000000L;
    private static final long NO_NUMBER = 0x7FF8000000000000L;

    public static void main(String[] args) {
        readingFaults();
        layingOutFaults();
        theStateBehindFaults();
        oneObjectAgain();
        indexes();
        nothingAndTruth();
        textsAndCharacters();
        wholes();
        bases();
        scientific();
        fixed();
        general();
        hex();
        beyondNumbers();
        textsOfNumbers();
        CHECKS.end();
    }

    private static void due(String format, SpecifierDesk desk, String want) {
        CHECKS.due(format, Checks.laidOut(desk, format), want);
    }

    private static void readingFaults() {
        String[][] rows = {
            {"1", "%", "a%", "%-", "%5", "%1$", "% ", "%<", "%.", "%.5", "%5.", "%.f", "%.-5f", "%--", "%1000", "%1000.d", "%--.d"},
            {"2", "%1000$s", "%1000s", "%.1000s", "%99999999999999999999$s", "%99999999999999999999d",
                "%.4294967297f", "%--1000s", "%1000y", "%1000n", "%.0001000f", "%1000$n", "%1000$%"},
            {"3", "%--5d", "%00d", "%--y", "%##n", "%-+-5d", "%  %", "%,,s"},
            {"4", "%y", "%D", "%O", "%F", "%N", "%5-d", "%0$s", "%-1$s", "%1$2$s", "%<<s", "%.5.f", "%5 d", "%-<5d", "%05$d", "%\u0001"}
        };
        String[][] parts = {
            {"5", "%5n", "%5.2n", "%-5n"},
            {"6", "%.2n", "%-.2n", "%.0%", "%-.2%", "%#5.2%", "%.0c", "%-.3C", "%#5.2c", "%.1d", "%-.1d", "%+ .1o", "%.1x", "%.1X"},
            {"7", "%-n", "%0n", "%#n", "%#%", "%0%", "%-+%", "%05%", "%+ d", "%-05d", "%+ #d", "%-0#5x", "%+ e", "%-05f", "%+ G", "%+ a", "%+ (A", "%-05E"},
            {"8", "%-%", "%-b", "%-s", "%-c", "%-#S", "%-d", "%0d", "%-0d", "%0x", "%-o", "%0e", "%-f", "%0g", "%-a", "%0+ A", "%-#d", "%0#d", "%0X", "%0G"},
            {"9", "%#b", "%#s", "%0s", "%05s", "%+b", "% c", "%,S", "%(5B", "%#C", "%#d", "%,o", "%,x", "%,X", "%,e", "%,E", "%#g", "%#G", "%,a", "%(a", "%(A", "%#5d", "%-#5s"}
        };
        for (String[][] table : new String[][][] {rows, parts}) {
            for (String[] row : table) {
                for (int i = 1; i < row.length; i++) {
                    due(row[i], new SpecifierDesk(), row[0]);
                    due("ab%%%n" + row[i], new SpecifierDesk(), row[0]);
                }
            }
        }
        due("the first one that has any: %y%", new SpecifierDesk(), "4");
        due("%d%y", new SpecifierDesk(), "4");
        due("%5n%.f", new SpecifierDesk(), "5");
        due("%999$s", new SpecifierDesk(), "10");
        due("%1$.999s%<999s", Desks.text("x"), "'x" + " ".repeat(998) + "x'");
        due("%.0002f", Desks.decimal(false, 5, 0), "'5.00'");
    }

    private static void layingOutFaults() {
        due("%s", new SpecifierDesk(), "10");
        due("%<s", Desks.nothing(), "10");
        due("%%%<s", Desks.nothing(), "10");
        due("%s%s", Desks.nothing(), "10");
        due("%2$s", Desks.nothing(), "10");
        due("%d%s", Desks.text("x"), "11");
        for (String f : new String[] {"%c", "%C", "%d", "%o", "%x", "%X", "%e", "%E", "%f", "%g", "%G", "%a", "%A"}) {
            due(f, Desks.text("x"), "11");
            SpecifierDesk truth = new SpecifierDesk();
            truth.truth(true);
            due(f, truth, "11");
        }
        for (String f : new String[] {"%d", "%o", "%x", "%X", "%e", "%f", "%g", "%a"}) {
            SpecifierDesk character = new SpecifierDesk();
            character.character(65);
            due(f, character, "11");
        }
        for (String f : new String[] {"%e", "%E", "%f", "%g", "%G", "%a", "%A"}) {
            due(f, Desks.whole(65, 8), "11");
            due(f, Desks.size(false, 65), "11");
        }
        for (String f : new String[] {"%c", "%C", "%d", "%o", "%x", "%X"}) {
            due(f, Desks.decimal(false, 65, 0), "11");
            due(f, Desks.fraction(0, 65, 0), "11");
        }
        due("%c", Desks.size(false, 65), "11");
        due("%c", Desks.whole(65, 64), "11");
        due("%c", Desks.whole(200, 64), "11");
        due("%a", Desks.decimal(false, 1, 0), "11");
        for (long v : new long[] {0, -1, 127, 128}) {
            due("%c", Desks.whole(v, 8), "12");
            due("%C", Desks.whole(v, 16), "12");
            due("%c", Desks.whole(v, 32), "12");
        }
        for (String f : new String[] {"%+x", "% x", "%(x", "%+X", "%+o", "% o", "%(o"}) {
            due(f, Desks.whole(1, 8), "13");
            due(f, Desks.whole(1, 64), "13");
        }
        due("%999s%<999s%<999s%<999s%<4s", Desks.text(""), "'" + " ".repeat(4000) + "'");
        due("%999s%<999s%<999s%<999s%<5s", Desks.text(""), "14");
        due("%999s%<999s%<999s%<999sabcd", Desks.text(""), "'" + " ".repeat(3996) + "abcd'");
        due("%999s%<999s%<999s%<999sabcd%n", Desks.text(""), "14");
        due("%999s%<999s%<999s%<999sabcde%9$s", Desks.text(""), "14");
        due("%999s%<999s%<999s%<999sabcd%9$s", Desks.text(""), "10");
        due("%999%%999%%999%%999%%-4%", new SpecifierDesk(), "'" + (" ".repeat(998) + "%").repeat(4) + "%   '");
        due("%999%%999%%999%%999%%-5%", new SpecifierDesk(), "14");
    }

    private static void theStateBehindFaults() {
        SpecifierDesk desk = Desks.text("x");
        due("<%s>", desk, "'<x>'");
        Checks.writeText(desk, "%y");
        CHECKS.due("fault of reading", desk.layOut(), 4);
        CHECKS.due("fault of reading: the result stays", Checks.resultOf(desk), "<x>");
        desk.clear();
        due("a%d", desk, "10");
        CHECKS.due("fault of laying out: the result is empty", desk.length(), 0);
        CHECKS.due("fault of laying out: no character", desk.characterAt(0), -1);
        desk.truth(true);
        CHECKS.due("the draft stays", desk.layOut(), 11);
        desk.clear();
        desk.whole(5, 8);
        due("a%d", desk, "'a5'");
        CHECKS.due("draft and arguments stay", desk.layOut(), 0);
        CHECKS.due("laid out again", Checks.resultOf(desk), "a5");
    }

    /** Nothing of an earlier layOut or of a cleared argument may shine through. */
    private static void oneObjectAgain() {
        SpecifierDesk desk = Desks.text("x");
        due("%s", desk, "'x'");
        desk.clear();
        desk.truth(true);
        due("%<s", desk, "10");
        for (String[] faulty : new String[][] {{"%5", "1"}, {"%.f", "1"}, {"%1000s", "2"}, {"%--5s", "3"}, {"%y", "4"}, {"%5n", "5"}, {"%S%y", "4"}}) {
            desk.clear();
            due(faulty[0], desk, faulty[1]);
            desk.clear();
            desk.truth(true);
            due("%s", desk, "'true'");
        }
        desk.clear();
        due("%999%%999%%999%%999%%5%", desk, "14");
        desk.clear();
        due("%%", desk, "'%'");
        desk.clear();
        desk.fraction(-1L, 5, 300);
        desk.size(true, 5);
        desk.scale(3);
        desk.clear();
        desk.whole(7, 8);
        desk.size(false, 7);
        due("%d %1$s %1$x %2$d %2$s %2$x", desk, "'7 7 7 7 7 7'");
        desk.clear();
        for (int i = 0; i < 8; i++) {
            CHECKS.due("a great size", i == 0 ? desk.size(false, -1) : desk.more(-1), 1);
        }
        desk.size(false, 999999999);
        desk.scale(9);
        desk.whole(8, 8);
        due("%x %2$.1f %3$o %1$x %2$.0e %3$x", desk, "'F 1.0 10 F 1e+00 8'".replace("F", "f".repeat(128)));
    }

    private static void indexes() {
        SpecifierDesk desk = new SpecifierDesk();
        for (int i = 1; i <= 12; i++) {
            desk.whole(i * 11, 16);
        }
        due("%3$d %d %<d %12$d %<d %d %5$% %<n%<d %1$n%d", desk, "'33 11 11 132 132 22 % \n22 \n33'");
        desk = Desks.text("x");
        due("%%%5%|%-5%|%n%s", desk, "'%    %|%    |\nx'");
    }

    private static void nothingAndTruth() {
        due("%b %1$s %1$c %1$d %1$o %1$x %1$e %1$f %1$g %1$a", Desks.nothing(),
            "'false null null null null null null null null null'");
        due("%B %1$S %1$C %1$X %1$E %1$G %1$A", Desks.nothing(), "'FALSE NULL NULL NULL NULL NULL NULL'");
        due("%.2b %1$.2s %1$.0s|%1$.2e %1$.2f %1$.2g %1$.2a", Desks.nothing(), "'fa nu |null null null null'");
        due("%06d|%1$+(,d|%1$-6x|%1$#6o|%1$#010f|% 1$6d".replace("% 1$", "%1$ "), Desks.nothing(),
            "'  null|null|null  |  null|      null|  null'");
        SpecifierDesk desk = new SpecifierDesk();
        desk.truth(true);
        desk.truth(false);
        due("%b %b %1$B %2$s %2$S %1$.1b %2$.9b|%1$6b|%2$-7.3s|%1$.0b|", desk, "'true false TRUE false FALSE t false|  true|fal    ||'");
        due("%b", Desks.whole(0, 8), "'true'");
        due("%b", Desks.size(false, 0), "'true'");
        due("%b", Desks.decimal(false, 0, 0), "'true'");
        due("%B", Desks.fraction(NO_NUMBER, 0, 0), "'TRUE'");
        due("%b", Desks.text(""), "'true'");
    }

    private static void textsAndCharacters() {
        due("%s|%1$S|%1$5s|%1$-5s|%1$.1s|%1$4.2S|%1$.9s", Desks.text("aZ{"), "'aZ{|AZ{|  aZ{|aZ{  |a|  AZ|aZ{'");
        due("%S", Desks.text("abyz`{@AZ[ 09~"), "'ABYZ`{@AZ[ 09~'");
        SpecifierDesk desk = new SpecifierDesk();
        desk.character('q');
        due("%c|%1$C|%1$3c|%1$-3C|%1$s|%1$S|%1$.0s|", desk, "'q|Q|  q|Q  |q|Q||'");
        due("%c%1$C", Desks.whole(113, 8), "'qQ'");
        due("%c%1$3c", Desks.whole(126, 16), "'~  ~'");
        due("%c%1$-3c|", Desks.whole(1L << 32 | 1, 32), "'\u0001\u0001  |'");
    }

    private static void wholes() {
        due("%d|%1$,d|%1$(,d|%1$+d|%1$ d|%1$012d|%1$(,015d|%1$-10d|%1$10d", Desks.whole(-1234567, 32),
            "'-1234567|-1,234,567|(1,234,567)|-1234567|-1234567|-00001234567|(00001,234,567)|-1234567  |  -1234567'");
        due("%d|%1$,d|%1$(d|%1$+,d|%1$ d|%1$+07d|%1$ 07d", Desks.whole(123456, 64),
            "'123456|123,456|123456|+123,456| 123456|+123456| 123456'");
        due("%,d %1$03d", Desks.whole(100, 8), "'100 100'");
        due("%,d", Desks.whole(1000, 16), "'1,000'");
        due("%d %1$+d %1$03d", Desks.whole(0, 8), "'0 +0 000'");
        due("%d", Desks.whole(MINUS, 64), "'-9223372036854775808'");
        due("%d %1$s", Desks.whole(MINUS, 8), "'0 0'");
        due("%d %1$+d %1$s %1$(d", Desks.size(true, 0), "'0 +0 0 0'");
        due("%,d|%1$(25d|%1$(025d", Desks.size(true, 1, 0), "'-18,446,744,073,709,551,616|   (18446744073709551616)|(00018446744073709551616)'");
        due("%.4s|%1$-8.3S|", Desks.size(true, 1, 0), "'-184|-18     |'");
    }

    private static void bases() {
        due("%x %1$o %1$X %1$#x %1$#X %1$#o %1$#08X %1$08x %1$#-6x|%1$#6x", Desks.whole(-1, 8), "'ff 377 FF 0xff 0XFF 0377 0X0000FF 000000ff 0xff  |  0xff'");
        due("%x %1$o", Desks.whole(-1, 16), "'ffff 177777'");
        due("%x %1$o", Desks.whole(-1, 32), "'ffffffff 37777777777'");
        due("%x %1$o", Desks.whole(-1, 64), "'ffffffffffffffff 1777777777777777777777'");
        due("%x %1$o %1$#x %1$#o %1$#05o", Desks.whole(0, 32), "'0 0 0x0 00 00000'");
        due("%x %1$o %1$#x %1$+x", Desks.size(true, 0), "'0 0 0x0 +0'");
        due("%x|%1$X|%1$#x|%1$(#x|%1$(#010x|%1$+o|%1$ x|%1$#08o", Desks.size(true, 0xabc), "'-abc|-ABC|-0xabc|(0xabc)|(0x000abc)|-5274|-abc|-0005274'");
        due("%+x|%1$ #X|%1$(o|%1$+#08x", Desks.size(false, 0xabc), "'+abc| 0XABC|5274|+0x00abc'");
        due("%x", Desks.size(false, 1, 0, 0, 0, 0, 0, 0, 0x1fL), "'1" + "0".repeat(110) + "1f'");
        due("%o", Desks.size(false, -1, -1, -1, -1, -1, -1, -1, -1), "'3" + "7".repeat(170) + "'");
    }

    private static void scientific() {
        due("%e|%1$.0e|%1$#.0e|%1$.2E|%1$+.3e|%1$ .1e|%1$015.2e|%1$-12.2e|%1$(.1e", Desks.decimal(false, 12345678, 3),
            "'1.234568e+04|1e+04|1.e+04|1.23E+04|+1.235e+04| 1.2e+04|00000001.23e+04|1.23e+04    |1.2e+04'");
        due("%(.1e|%1$(012.1e|%1$.1e", Desks.decimal(true, 25, 402 - 2), "'(2.5e-399)|(002.5e-399)|-2.5e-399'");
        due("%.1e %1$.0e", Desks.decimal(false, 9996, 2), "'1.0e+02 1e+02'");
        due("%.0e", Desks.decimal(true, 25, 0), "'-3e+01'");
        due("%.0e", Desks.decimal(false, 24999, 0), "'2e+04'");
        due("%e", Desks.decimal(false, 5, -400), "'5.000000e+400'");
        due("%e %1$.0e %1$#.0e %1$+.1e", Desks.decimal(true, 0, 7), "'0.000000e+00 0e+00 0.e+00 +0.0e+00'");
        due("%.2e", Desks.fraction(MINUS, 0, 7), "'-0.00e+00'");
        due("%.1e", Desks.fraction(PI, 314, -2), "'3.1e+00'");
        due("%.20e", Desks.fraction(MINUS | PI, 314, -2), "'-3.14000000000000000000e+00'");
    }

    private static void fixed() {
        due("%f|%1$.0f|%1$#.0f|%1$,.2f|%1$+,.1f|%1$015.2f|%1$-12.1f|%1$12.1f|%1$(,f", Desks.decimal(false, 12345678, 3),
            "'12345.678000|12346|12346.|12,345.68|+12,345.7|000000012345.68|12345.7     |     12345.7|12,345.678000'");
        due("%(08.2f|%1$.0f|%1$.1f|%1$(,.0f|%1$ .1f", Desks.decimal(true, 149, 2), "'(001.49)|-1|-1.5|(1)|-1.5'");
        due("%.1f %1$.0f %1$.2f %1$.3f", Desks.decimal(true, 5, 2), "'-0.1 -0 -0.05 -0.050'");
        due("%.1f %1$.0f %1$(.0f", Desks.decimal(true, 5, 400), "'-0.0 -0 (0)'");
        due("%.0f %1$.1f", Desks.decimal(false, 5, 1), "'1 0.5'");
        due("%.0f", Desks.decimal(false, 49, 2), "'0'");
        due("%,.0f", Desks.decimal(false, 9999995, 1), "'1,000,000'");
        due("%,f", Desks.decimal(false, 12, -5), "'1,200,000.000000'");
        due("%.3f %1$+.0f", Desks.decimal(true, 0, 3), "'0.000 +0'");
        due("%.1f %1$.0f %1$(.0f", Desks.fraction(MINUS, 0, 3), "'-0.0 -0 (0)'");
        due("%.1f", Desks.fraction(0, 25, -2), "'0.3'");
        due("%.999f", Desks.fraction(PI, 1, 400), "'1" + "0".repeat(400) + "." + "0".repeat(999) + "'");
        SpecifierDesk most = Desks.size(true, -1, -1, -1, -1, -1, -1, -1, -1);
        most.scale(-400);
        java.math.BigInteger value = java.math.BigInteger.ONE.shiftLeft(512).subtract(java.math.BigInteger.ONE)
            .multiply(java.math.BigInteger.TEN.pow(400));
        due("%(,.999f", most, "'(" + String.format("%,d", value) + "." + "0".repeat(999) + ")'");
    }

    private static void general() {
        due("%g|%1$.0g|%1$.1g|%1$.5g|%1$.6g|%1$,.7g|%1$.8G|%1$010.5g", Desks.decimal(false, 12345678, 3),
            "'12345.7|1e+04|1e+04|12346|12345.7|12,345.68|12345.678|0000012346'");
        due("%g %1$.4g", Desks.decimal(false, 1, 4), "'0.000100000 0.0001000'");
        due("%g %1$.5G", Desks.decimal(false, 99, 6), "'9.90000e-05 9.9000E-05'");
        due("%.2g %1$.3g", Desks.decimal(false, 9996, 8), "'0.00010 0.000100'");
        due("%.3g %1$.4g", Desks.decimal(true, 99999, 5 - 3), "'-1.00e+03 -1000'");
        due("%.3g", Desks.decimal(false, 9994, 1), "'999'");
        due("%g %1$.1g %1$+.0g", Desks.decimal(true, 0, 5), "'0.00000 0 +0'");
        due("%g %1$(.2g", Desks.fraction(MINUS, 0, -9), "'-0.00000 (0.0)'");
        due("%.3g", Desks.fraction(MINUS, 5, 300), "'-5.00e+300'");
    }

    private static void hex() {
        due("%a|%1$A|%1$.2a|%1$.0a|%1$.1A|%1$.13a|%1$.15a|%1$+a|%1$ .1a|%1$#.1a|%1$012.1a|%1$-10.1a|%1$10.1a", Desks.fraction(PI, 0, 0),
            "'0x1.921fb54442d18p1|0X1.921FB54442D18P1|0x1.92p1|0x1.9p1|0X1.9P1|0x1.921fb54442d18p1|0x1.921fb54442d1800p1"
            + "|+0x1.921fb54442d18p1| 0x1.9p1|0x1.9p1|0x000001.9p1|0x1.9p1   |   0x1.9p1'");
        due("%a %1$.3a %1$013.1a", Desks.fraction(MINUS | 0x3FE0000000000000L, 7, 7), "'-0x1.0p-1 -0x1.000p-1 -0x00001.0p-1'");
        due("%a %1$.0a %1$.3a %1$+09.1A", Desks.fraction(0, 5, 5), "'0x0.0p0 0x0.0p0 0x0.000p0 +0X00.0P0'");
        due("%a", Desks.fraction(MINUS, 5, 5), "'-0x0.0p0'");
        due("%a %1$.2a", Desks.fraction(1, 0, 0), "'0x1.0p-1074 0x1.00p-1074'");
        due("%a %1$.1a", Desks.fraction(0x000FFFFFFFFFFFFFL, 0, 0), "'0x1.ffffffffffffep-1023 0x1.0p-1022'");
        due("%.1a", Desks.fraction(0x3FF0800000000000L, 0, 0), "'0x1.0p0'");
        due("%.1a", Desks.fraction(0x3FF1800000000000L, 0, 0), "'0x1.2p0'");
        due("%.1a", Desks.fraction(0x3FF0800000000001L, 0, 0), "'0x1.1p0'");
        due("%.0a", Desks.fraction(0x3FFF800000000000L, 0, 0), "'0x1.0p1'");
        due("%.12a", Desks.fraction(0x7FEFFFFFFFFFFFFFL, 0, 0), "'0x1.000000000000p1024'");
    }

    private static void beyondNumbers() {
        for (String c : new String[] {"e", "f", "g", "a"}) {
            String formats = "%C|%1$+C|%1$ C|%1$010C|%1$-10C|%1$.1C".replace("C", c);
            due(formats, Desks.fraction(INFINITE, 1, 1), "'Infinity|+Infinity| Infinity|  Infinity|Infinity  |Infinity'");
            due(formats, Desks.fraction(MINUS | INFINITE, 0, 1), "'-Infinity|-Infinity|-Infinity| -Infinity|-Infinity |-Infinity'");
            due(formats, Desks.fraction(NO_NUMBER, 1, 1), "'NaN|NaN|NaN|       NaN|NaN       |NaN'");
            due(formats, Desks.fraction(-1L, 1, 1), "'NaN|NaN|NaN|       NaN|NaN       |NaN'");
        }
        due("%(f %1$(012E", Desks.fraction(MINUS | INFINITE, 0, 1), "'(Infinity)   (INFINITY)'");
        due("%(f %1$(,012f %1$G", Desks.fraction(MINUS | NO_NUMBER, 0, 1), "'NaN          NaN NAN'");
        due("%s %1$S %1$.4s", Desks.fraction(MINUS | INFINITE, 0, 1), "'-Infinity -INFINITY -Inf'");
        due("%s %1$S", Desks.fraction(INFINITE, 0, 1), "'Infinity INFINITY'");
        due("%s %1$S", Desks.fraction(INFINITE | 1, 0, 1), "'NaN NAN'");
        due("%s", Desks.fraction(-1L, 0, 1), "'NaN'");
    }

    private static void textsOfNumbers() {
        Object[][] fractions = {
            {314L, -2, "3.14"}, {15L, 0, "15.0"}, {1500L, -2, "15.0"}, {1L, -3, "0.001"}, {12L, -5, "1.2E-4"},
            {999L, -6, "9.99E-4"}, {1L, 6, "1000000.0"}, {1L, 7, "1.0E7"}, {12345678L, 0, "1.2345678E7"}, {1234567L, 0, "1234567.0"},
            {12345678L, -1, "1234567.8"}, {100L, -5, "0.001"}, {10000000L, 0, "1.0E7"}, {0L, 300, "0.0"}, {0L, -300, "0.0"},
            {1L, -400, "1.0E-400"}, {10L, 0, "10.0"}, {100L, -100, "1.0E-98"}
        };
        for (Object[] row : fractions) {
            due("%s", Desks.fraction(0, (Long) row[0], (Integer) row[1]), "'" + row[2] + "'");
            due("%S", Desks.fraction(MINUS, (Long) row[0], (Integer) row[1]), "'-" + row[2] + "'");
        }
        Object[][] decimals = {
            {12345L, 2, "123.45"}, {12345L, 0, "12345"}, {12345L, 5, "0.12345"}, {12345L, 10, "0.0000012345"}, {12345L, 11, "1.2345E-7"},
            {12345L, -1, "1.2345E+5"}, {1L, 6, "0.000001"}, {1L, 7, "1E-7"}, {1L, -1, "1E+1"}, {1000L, 3, "1.000"}, {100L, -400, "1.00E+402"}
        };
        for (Object[] row : decimals) {
            due("%s", Desks.decimal(false, (Long) row[0], (Integer) row[1]), "'" + row[2] + "'");
            due("%s", Desks.decimal(true, (Long) row[0], (Integer) row[1]), "'-" + row[2] + "'");
        }
        due("%s", Desks.decimal(true, 0, 0), "'0'");
        due("%s", Desks.decimal(true, 0, 3), "'0.000'");
        due("%s", Desks.decimal(false, 0, 6), "'0.000000'");
        due("%s", Desks.decimal(false, 0, 7), "'0E-7'");
        due("%s", Desks.decimal(true, 0, -3), "'0E+3'");
        due("%8.4s|%1$-8s|", Desks.decimal(true, 12345, 2), "'    -123|-123.45 |'");
    }
}

import java.math.BigInteger;
import java.util.function.Consumer;
import java.util.function.Function;

/** The boundary cases of all promises but layOut's formats: one test for each sentence that names any. */
public final class BoundaryCallsTest {
    private static final Checks CHECKS = new Checks();
    private static final int[] FAR = {Integer.MIN_VALUE, Integer.MAX_VALUE};
    private static final BigInteger TWO = BigInteger.TWO;

    public static void main(String[] args) {
        aNewObject();
        writeFromTheHighest();
        writeLeavesZerosOut();
        writeAbove126();
        writeMoreThan400();
        clear();
        argumentsAreNumbered();
        theThirteenthArgument();
        refusedAtTwelveAnyway();
        truth();
        character();
        wholeLowestBits();
        wholeWidth();
        sizeWithoutASign();
        moreBits();
        moreOnOtherKinds();
        moreBelow2To512();
        scale();
        scaleOnOtherKinds();
        scaleOutside();
        fractionDigits();
        fractionPower();
        text();
        draftAndArgumentsStay();
        length();
        characterAt();
        the512thCall();
        CHECKS.end();
    }

    private static void due(String what, Object got, Object want) {
        CHECKS.due(what, got, want);
    }

    /** All that can be seen of a desk from outside; the desk is used up by it. */
    private static String seen(SpecifierDesk desk) {
        StringBuilder seen = new StringBuilder(Checks.resultOf(desk));
        seen.append('\n').append(desk.layOut()).append(Checks.resultOf(desk));
        seen.append('\n').append(desk.scale(1)).append(' ').append(desk.more(1)).append(' ').append(desk.text());
        for (int number = 1; number <= 13; number++) {
            Checks.writeText(desk, "%" + number + "$s|");
            seen.append('\n').append(desk.layOut()).append(Checks.resultOf(desk));
        }
        return seen.toString();
    }

    /** The call gives the answer, and nothing has changed: a twin without the call looks the same. */
    private static void refused(String what, Consumer<SpecifierDesk> before, Function<SpecifierDesk, Object> call, Object answer) {
        SpecifierDesk desk = new SpecifierDesk();
        SpecifierDesk twin = new SpecifierDesk();
        before.accept(desk);
        before.accept(twin);
        due(what, call.apply(desk), answer);
        due(what + ": what is seen then", seen(desk), seen(twin));
    }

    /** A result, some arguments, the latest of them a long whole, and a draft. */
    private static void someState(SpecifierDesk desk) {
        Checks.laidOut(desk, "before");
        desk.clear();
        desk.truth(false);
        desk.character('z');
        desk.size(true, 77);
        Checks.writeText(desk, "a%sb");
    }

    private static void twelve(SpecifierDesk desk) {
        Checks.laidOut(desk, "before");
        desk.clear();
        for (int i = 1; i <= 12; i++) {
            desk.size(true, i);
        }
        Checks.writeText(desk, "a%12$sb");
    }

    private static void aNewObject() {
        CHECKS.sentence("Empty draft and result, no arguments");
        due("length", new SpecifierDesk().length(), 0);
        due("characterAt(0)", new SpecifierDesk().characterAt(0), -1);
        due("more", new SpecifierDesk().more(0), -1);
        due("scale", new SpecifierDesk().scale(0), -1);
        CHECKS.lays(SpecifierDesk::new, "", "", "x", "x");
        CHECKS.faulty(SpecifierDesk::new, 10, "%s", "%1$s", "%<s", "%12$s");
        CHECKS.lays(() -> Desks.of("text"), "<%s>", "<>");
        due("the first argument", new SpecifierDesk().nothing(), 1);
    }

    private static void writeFromTheHighest() {
        CHECKS.sentence("Appends the bytes of eight, from the highest to the lowest");
        SpecifierDesk desk = new SpecifierDesk();
        due("eight", desk.write(0x4142434445464748L), true);
        due("eight more", desk.write(0x494A4B4C4D4E4F50L), true);
        CHECKS.lays(() -> desk, "", "ABCDEFGHIJKLMNOP");
    }

    private static void writeLeavesZerosOut() {
        CHECKS.sentence("zeros left out: true");
        SpecifierDesk desk = new SpecifierDesk();
        due("zeros alone", desk.write(0), true);
        due("zeros in front", desk.write(0x41L), true);
        due("zeros behind", desk.write(0x4200000000000000L), true);
        due("zeros between", desk.write(0x4300004400450000L), true);
        CHECKS.lays(() -> desk, "", "ABCDE");
    }

    private static void writeAbove126() {
        CHECKS.sentence("False, refused, when a byte is above 126");
        for (int shift = 0; shift < 64; shift += 8) {
            long others = 0x4142434445464748L & ~(255L << shift);
            for (long high : new long[] {127, 128, 254, 255}) {
                long alone = high << shift;
                long eight = others | alone;
                refused(high + " at bit " + shift, BoundaryCallsTest::someState, desk -> desk.write(eight), false);
                refused(high + " alone at bit " + shift, BoundaryCallsTest::someState, desk -> desk.write(alone), false);
            }
            SpecifierDesk desk = new SpecifierDesk();
            due("126 at bit " + shift, desk.write(126L << shift), true);
            due("1 at bit " + shift, desk.write(1L << shift), true);
            CHECKS.lays(() -> desk, "", "~\u0001");
        }
    }

    private static void writeMoreThan400() {
        CHECKS.sentence("or there would be more than 400");
        for (int used = 390; used <= 400; used++) {
            String there = "x".repeat(used);
            for (int more = 0; more <= 8; more++) {
                long eight = Checks.packed("ABCDEFGH".substring(0, more));
                if (used + more > 400) {
                    refused(used + " + " + more, desk -> Checks.writeText(desk, there), desk -> desk.write(eight), false);
                } else {
                    SpecifierDesk desk = new SpecifierDesk();
                    due("write of " + used, Checks.writeText(desk, there), true);
                    due(used + " + " + more, desk.write(eight), true);
                    CHECKS.lays(() -> desk, "", there + "ABCDEFGH".substring(0, more));
                }
            }
        }
        SpecifierDesk zeros = new SpecifierDesk();
        Checks.writeText(zeros, "x".repeat(399));
        due("zeros do not count", zeros.write(0x0000410000000000L), true);
        CHECKS.lays(() -> zeros, "", "x".repeat(399) + "A");
    }

    private static void clear() {
        CHECKS.sentence("The draft becomes empty, and there are no arguments");
        SpecifierDesk desk = new SpecifierDesk();
        desk.clear();
        due("a new object: layOut", desk.layOut(), 0);
        twelve(desk);
        Checks.writeText(desk, "x".repeat(393));
        desk.layOut();
        String before = Checks.resultOf(desk);
        desk.clear();
        due("the result stays", Checks.resultOf(desk), before);
        due("no latest for more", desk.more(0), -1);
        due("no latest for scale", desk.scale(0), -1);
        due("400 can be written", Checks.writeText(desk, "y".repeat(400)), true);
        due("none but these", Checks.laidOut(desk, ""), "'" + "y".repeat(400) + "'");
        for (int i = 1; i <= 12; i++) {
            due("argument again", desk.nothing(), i);
        }
        desk.clear();
        desk.clear();
        due("twice", Checks.laidOut(desk, "%1$s"), "10");
    }

    private static void argumentsAreNumbered() {
        CHECKS.sentence("The number of the ARGUMENT, as in all that follow");
        for (String kind : Desks.KINDS) {
            SpecifierDesk desk = new SpecifierDesk();
            for (int i = 1; i <= 12; i++) {
                due(kind, Desks.add(desk, kind), i);
            }
            due(kind + " is there as argument 12", Checks.laidOut(desk, "%12$b").length() > 2, true);
        }
    }

    private static void theThirteenthArgument() {
        CHECKS.sentence("-1, refused, when there are 12 (what is refused changes nothing: the draft stays, too)");
        for (String kind : Desks.KINDS) {
            refused(kind, BoundaryCallsTest::twelve, desk -> Desks.add(desk, kind), -1);
        }
        refused("text of a full draft", desk -> {
            twelve(desk);
            Checks.writeText(desk, "x".repeat(393));
        }, SpecifierDesk::text, -1);
        CHECKS.lays(() -> {
            SpecifierDesk desk = new SpecifierDesk();
            twelve(desk);
            desk.text();
            return desk;
        }, "c", "a-12bc");
    }

    private static void refusedAtTwelveAnyway() {
        CHECKS.sentence("-1, too: two reasons at once");
        refused("character", BoundaryCallsTest::twelve, desk -> desk.character(0), -1);
        refused("whole", BoundaryCallsTest::twelve, desk -> desk.whole(1, 9), -1);
        refused("fraction", BoundaryCallsTest::twelve, desk -> desk.fraction(0, -1, 401), -1);
    }

    private static void truth() {
        CHECKS.sentence("A TRUTH");
        CHECKS.lays(() -> Desks.truth(true), "%b", "true", "%s", "true");
        CHECKS.lays(() -> Desks.truth(false), "%b", "false", "%s", "false");
    }

    private static void character() {
        CHECKS.sentence("A CHARACTER; -1, too, when c is not 1 .. 126");
        for (int c = -2; c <= 300; c++) {
            int given = c;
            if (c < 1 || c > 126) {
                refused("character " + c, BoundaryCallsTest::someState, desk -> desk.character(given), -1);
            } else {
                due("character " + c, new SpecifierDesk().character(c), 1);
                CHECKS.lays(() -> Desks.character(given), "%c", String.valueOf((char) c));
            }
        }
        for (int c : new int[] {Integer.MIN_VALUE, Integer.MAX_VALUE, 65 + (1 << 8), 65 + (1 << 16), 65 - (1 << 8)}) {
            refused("character " + c, BoundaryCallsTest::someState, desk -> desk.character(c), -1);
        }
    }

    private static void wholeLowestBits() {
        CHECKS.sentence("A SHORT WHOLE: the lowest bits of v, as many as it is wide (two's complement)");
        for (int width : new int[] {8, 16, 32, 64}) {
            BigInteger half = TWO.pow(width - 1);
            BigInteger all = TWO.pow(width);
            BigInteger[] edges = {BigInteger.ZERO, BigInteger.ONE, half.subtract(BigInteger.ONE), half, half.add(BigInteger.ONE),
                all.subtract(BigInteger.ONE), all, all.add(BigInteger.ONE)};
            for (BigInteger edge : edges) {
                for (BigInteger v : new BigInteger[] {edge, edge.negate()}) {
                    BigInteger bits = v.mod(all);
                    BigInteger signed = bits.compareTo(half) < 0 ? bits : bits.subtract(all);
                    CHECKS.lays(() -> Desks.whole(v.longValue(), width), "%d", signed.toString(), "%s", signed.toString(),
                        "%x", bits.toString(16), "%o", bits.toString(8));
                }
            }
        }
    }

    private static void wholeWidth() {
        CHECKS.sentence("-1, too, when width is not 8, 16, 32 or 64");
        for (int width = -70; width <= 140; width++) {
            wholeOfWidth(width);
        }
        for (int width : new int[] {FAR[0], FAR[1], 256, 8 + 256, 64 + (1 << 16)}) {
            wholeOfWidth(width);
        }
    }

    private static void wholeOfWidth(int width) {
        if (width == 8 || width == 16 || width == 32 || width == 64) {
            due("width " + width, new SpecifierDesk().whole(1, width), 1);
        } else {
            refused("width " + width, BoundaryCallsTest::someState, desk -> desk.whole(1, width), -1);
        }
    }

    private static void sizeWithoutASign() {
        CHECKS.sentence("A LONG WHOLE: its sign, and a SIZE of 64 bits without one");
        long[] edges = {0, 1, Long.MAX_VALUE, Long.MIN_VALUE, -1};
        for (long bits : edges) {
            String digits = Long.toUnsignedString(bits);
            CHECKS.lays(() -> Desks.size(false, bits), "%d", digits, "%s", digits, "%x", Long.toHexString(bits));
            String below = bits == 0 ? "0" : "-" + digits;
            CHECKS.lays(() -> Desks.size(true, bits), "%d", below, "%s", below);
        }
    }

    private static void moreBits() {
        CHECKS.sentence("The latest ARGUMENT's SIZE becomes that * 2^64 + the 64 bits without a sign: its number");
        for (long low : new long[] {0, 1, Long.MAX_VALUE, Long.MIN_VALUE, -1}) {
            BigInteger size = TWO.pow(64).multiply(BigInteger.valueOf(3)).add(new BigInteger(Long.toUnsignedString(low)));
            CHECKS.lays(() -> Desks.size(true, 3, low), "%d", "-" + size);
        }
        SpecifierDesk desk = new SpecifierDesk();
        desk.size(false, 1);
        desk.size(false, 2);
        due("its number", desk.more(0), 2);
        due("a decimal's number, too", desk.scale(0), 2);
        due("a decimal's number, too", desk.more(5), 2);
        CHECKS.lays(() -> desk, "%s %s", "1 " + TWO.pow(129).add(BigInteger.valueOf(5)));
        SpecifierDesk full = new SpecifierDesk();
        twelve(full);
        due("with 12 arguments", full.more(0), 12);
        due("with 12 arguments", full.scale(0), 12);
        due("what has become of them", Checks.laidOut(full, "|%11$s"), "'a-" + TWO.pow(64).multiply(BigInteger.valueOf(12)) + "b|-11'");
    }

    private static void moreOnOtherKinds() {
        CHECKS.sentence("-1, refused, when it is no LONG WHOLE or DECIMAL");
        refused("none", desk -> Checks.writeText(desk, "a"), desk -> desk.more(1), -1);
        for (String kind : Desks.KINDS) {
            if (!kind.equals("long") && !kind.equals("decimal")) {
                refused(kind, desk -> {
                    someState(desk);
                    Desks.add(desk, kind);
                }, desk -> desk.more(1), -1);
            }
        }
        refused("cleared", desk -> {
            someState(desk);
            desk.clear();
        }, desk -> desk.more(1), -1);
    }

    private static void grow(SpecifierDesk desk, long first, int times, long more) {
        desk.size(false, first);
        for (int i = 0; i < times; i++) {
            desk.more(more);
        }
    }

    private static void moreBelow2To512() {
        CHECKS.sentence("or the SIZE would not be below 2^512");
        String greatest = TWO.pow(512).subtract(BigInteger.ONE).toString();
        CHECKS.lays(() -> Desks.greatest(false), "%d", greatest);
        CHECKS.lays(() -> Desks.greatest(true, 0), "%s", "-" + greatest);
        refused("2^448 grows", desk -> grow(desk, 1, 7, 0), desk -> desk.more(0), -1);
        refused("the greatest grows", desk -> grow(desk, -1, 7, -1), desk -> desk.more(-1), -1);
        refused("2^511 grows", desk -> grow(desk, Long.MIN_VALUE, 7, 0), desk -> desk.more(0), -1);
        refused("a decimal grows", desk -> {
            grow(desk, 1, 7, 0);
            desk.scale(3);
        }, desk -> desk.more(0), -1);
        SpecifierDesk below = Desks.size(false, 0, -1, -1, -1, -1, -1, -1, -1);
        due("2^448 - 1 grows", below.more(-1), 1);
        CHECKS.lays(() -> below, "%d", greatest);
        SpecifierDesk zero = new SpecifierDesk();
        grow(zero, 0, 30, 0);
        due("0 grows ever again", zero.more(9), 1);
        CHECKS.lays(() -> zero, "%d", "9");
    }

    private static void scale() {
        CHECKS.sentence("The latest ARGUMENT, a LONG WHOLE, becomes a DECIMAL with this SCALE: its number");
        SpecifierDesk desk = new SpecifierDesk();
        desk.size(false, 1);
        desk.size(false, 12);
        due("its number", desk.scale(1), 2);
        CHECKS.lays(() -> desk, "%d %s", "1 1.2");
        CHECKS.faulty(() -> desk, 11, "%2$d");
    }

    private static void scaleOnOtherKinds() {
        CHECKS.sentence("-1, refused, when it is none");
        refused("none", desk -> Checks.writeText(desk, "a"), desk -> desk.scale(1), -1);
        for (String kind : Desks.KINDS) {
            if (!kind.equals("long")) {
                refused(kind, desk -> {
                    someState(desk);
                    Desks.add(desk, kind);
                }, desk -> desk.scale(1), -1);
            }
        }
        refused("cleared", desk -> {
            someState(desk);
            desk.clear();
        }, desk -> desk.scale(1), -1);
    }

    private static void scaleOutside() {
        CHECKS.sentence("or scale is not -400 .. 400");
        for (int scale : new int[] {-401, 401, FAR[0], FAR[1], 1 << 16, -(1 << 16)}) {
            refused("scale " + scale, BoundaryCallsTest::someState, desk -> desk.scale(scale), -1);
        }
        CHECKS.lays(() -> Desks.decimal(false, 12, 400), "%s", "1.2E-399");
        CHECKS.lays(() -> Desks.decimal(false, 12, -400), "%s", "1.2E+401");
        CHECKS.lays(() -> Desks.decimal(false, 12, 0), "%s", "12");
    }

    private static void fractionDigits() {
        CHECKS.sentence("-1, too, when d is not 0 .. 10^17 - 1");
        for (long d : new long[] {-1, 100000000000000000L, Long.MIN_VALUE, Long.MAX_VALUE}) {
            refused("d " + d, BoundaryCallsTest::someState, desk -> desk.fraction(0, d, 0), -1);
        }
        due("d 0", new SpecifierDesk().fraction(0, 0, 0), 1);
        CHECKS.lays(() -> Desks.fraction(0, 0, 0), "%s", "0.0");
        CHECKS.lays(() -> Desks.fraction(0, 99999999999999999L, 0), "%s", "9.9999999999999999E16");
    }

    private static void fractionPower() {
        CHECKS.sentence("or t not -400 .. 400");
        for (int t : new int[] {-401, 401, FAR[0], FAR[1]}) {
            refused("t " + t, BoundaryCallsTest::someState, desk -> desk.fraction(0, 1, t), -1);
            refused("t " + t + " with d 0", BoundaryCallsTest::someState, desk -> desk.fraction(0, 0, t), -1);
        }
        CHECKS.lays(() -> Desks.fraction(0, 1, 400), "%s", "1.0E400");
        CHECKS.lays(() -> Desks.fraction(0, 1, -400), "%s", "1.0E-400");
    }

    private static void text() {
        CHECKS.sentence("A TEXT: the draft, which is empty then");
        SpecifierDesk desk = new SpecifierDesk();
        due("empty", desk.text(), 1);
        Checks.writeText(desk, "t".repeat(400));
        due("full", desk.text(), 2);
        due("400 can be written then", Checks.writeText(desk, "u".repeat(400)), true);
        due("full again", desk.text(), 3);
        due("empty again", desk.text(), 4);
        CHECKS.lays(() -> desk, "%s|%s|%s|%s", "|" + "t".repeat(400) + "|" + "u".repeat(400) + "|");
        CHECKS.lays(() -> Desks.text("%y"), "%s", "%y");
    }

    private static void draftAndArgumentsStay() {
        CHECKS.sentence("0, or the fault's number. Draft and arguments stay");
        String[][] formats = {{"0", "a%s"}, {"1", "a%"}, {"2", "%1000s"}, {"3", "%--5s"}, {"4", "%y"}, {"5", "%5n"}, {"6", "%.1n"},
            {"7", "%-n"}, {"8", "%-s"}, {"9", "%#s"}, {"10", "a%7$s"}, {"11", "a%d"}, {"12", "a%2$c"}, {"13", "a%2$+x"},
            {"14", "a%999s%999s%<999s%<999s%<9s"}};
        for (String[] row : formats) {
            refused(row[1], desk -> {
                desk.truth(true);
                desk.whole(0, 8);
                desk.size(true, 5);
                Checks.writeText(desk, row[1]);
                desk.layOut();
            }, SpecifierDesk::layOut, Integer.valueOf(row[0]));
        }
    }

    private static void length() {
        CHECKS.sentence("How many characters the RESULT has (a row of at most 4000, empty at first)");
        due("empty at first", new SpecifierDesk().length(), 0);
        SpecifierDesk desk = new SpecifierDesk();
        String most = "%999%%999%%999%%999%%4%";
        Checks.laidOut(desk, most);
        due("most", desk.length(), 4000);
        due("4001 are too many", Checks.laidOut(desk, "x"), "14");
        due("behind the fault", desk.length(), 0);
        desk.clear();
        Checks.laidOut(desk, "x");
        due("one", desk.length(), 1);
        desk.clear();
        desk.layOut();
        due("the empty draft", desk.length(), 0);
    }

    private static void characterAt() {
        CHECKS.sentence("Character k of the RESULT, from 0; -1 when there is none");
        SpecifierDesk desk = new SpecifierDesk();
        for (int k : new int[] {-1, 0, 1, FAR[0], FAR[1]}) {
            due("empty: " + k, desk.characterAt(k), -1);
        }
        Checks.laidOut(desk, "%-999%%999%%999%%999%%-3%x");
        int[][] rows = {{0, '%'}, {1, ' '}, {998, ' '}, {3995, '%'}, {3998, ' '}, {3999, 'x'}, {4000, -1}, {4001, -1}, {-1, -1},
            {-2, -1}, {-4000, -1}, {FAR[0], -1}, {FAR[1], -1}, {1 << 16, -1}};
        for (int[] row : rows) {
            due("full: " + row[0], desk.characterAt(row[0]), row[1]);
        }
        desk.clear();
        Checks.laidOut(desk, "ab");
        int[][] shorter = {{0, 'a'}, {1, 'b'}, {2, -1}, {3999, -1}};
        for (int[] row : shorter) {
            due("shorter than before: " + row[0], desk.characterAt(row[0]), row[1]);
        }
        CHECKS.faulty(() -> desk, 10, "%s");
        due("behind a fault", desk.characterAt(0), -1);
    }

    private static void the512thCall() {
        CHECKS.sentence("An object is used for at most 512 calls after it has been made");
        SpecifierDesk desk = new SpecifierDesk();
        for (int round = 0; round < 51; round++) {
            desk.clear();
            for (int i = 1; i <= 6; i++) {
                due("argument in round " + round, desk.size(false, round), i);
            }
            due("more in round " + round, desk.more(round), 6);
            due("write in round " + round, desk.write(0x25362478L), true);
            due("layOut in round " + round, desk.layOut(), 0);
        }
        due("call 511", desk.length(), 18);
        due("call 512", desk.characterAt(17), (int) '2');
    }
}

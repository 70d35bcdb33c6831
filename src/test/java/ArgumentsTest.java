/** Promises 1 to 12, 14 and 15: the draft, the arguments and what refuses them. */
public final class ArgumentsTest {
    private static final Checks CHECKS = new Checks();
    private static final String TEXT_400 = "0123456789".repeat(40);

    public static void main(String[] args) {
        aNewObject();
        write();
        clear();
        nothingTruthCharacter();
        whole();
        sizeAndMore();
        scale();
        fraction();
        text();
        theThirteenthIsRefused();
        lengthAndCharacterAt();
        CHECKS.end();
    }

    private static void due(String what, Object got, Object want) {
        CHECKS.due(what, got, want);
    }

    private static SpecifierDesk full() {
        SpecifierDesk desk = new SpecifierDesk();
        for (int i = 1; i <= 12; i++) {
            due("nothing " + i, desk.nothing(), i);
        }
        return desk;
    }

    private static void aNewObject() {
        SpecifierDesk desk = new SpecifierDesk();
        due("new: length", desk.length(), 0);
        due("new: characterAt(0)", desk.characterAt(0), -1);
        due("new: more", desk.more(1), -1);
        due("new: scale", desk.scale(1), -1);
        due("new: layOut of the empty draft", desk.layOut(), 0);
        due("new: length behind that", desk.length(), 0);
        due("new: no argument", Checks.laidOut(desk, "%s"), "10");
    }

    private static void write() {
        SpecifierDesk desk = new SpecifierDesk();
        due("write of zeros", desk.write(0), true);
        due("write with zeros between", desk.write(0x4100420000430044L), true);
        due("write of 127", desk.write(0x417F41L), false);
        due("write of 128", desk.write(0x8041414141414141L), false);
        due("write of 255", desk.write(-1L), false);
        due("write of 126 and 1", desk.write(0x7E01L), true);
        due("write: layOut", desk.layOut(), 0);
        due("write: what stands", Checks.resultOf(desk), "ABCD~\u0001");

        SpecifierDesk long400 = new SpecifierDesk();
        due("write of 400", Checks.writeText(long400, TEXT_400), true);
        due("write of 401", long400.write('a'), false);
        due("write of none more", long400.write(0), true);
        due("write of 400: layOut", long400.layOut(), 0);
        due("write of 400: what stands", Checks.resultOf(long400), TEXT_400);

        SpecifierDesk at399 = new SpecifierDesk();
        Checks.writeText(at399, TEXT_400.substring(1));
        due("write of 399 + 2", at399.write(0x4142L), false);
        due("write of 399 + 1", at399.write(0x41L), true);
        at399.layOut();
        due("write of 399 + 1: length", at399.length(), 400);
    }

    private static void clear() {
        SpecifierDesk desk = new SpecifierDesk();
        desk.truth(true);
        due("clear: before", Checks.laidOut(desk, "%b"), "'true'");
        desk.clear();
        due("clear: the result stays", Checks.resultOf(desk), "true");
        due("clear: no latest argument", desk.more(1), -1);
        due("clear: no arguments", Checks.laidOut(desk, "%b"), "10");
        desk.clear();
        due("clear: the draft is empty", Checks.laidOut(desk, "x"), "'x'");
        due("clear: numbers begin anew", desk.nothing(), 1);
    }

    private static void nothingTruthCharacter() {
        SpecifierDesk desk = new SpecifierDesk();
        due("nothing", desk.nothing(), 1);
        due("truth(true)", desk.truth(true), 2);
        due("truth(false)", desk.truth(false), 3);
        due("character(1)", desk.character(1), 4);
        due("character(126)", desk.character(126), 5);
        due("character(0)", desk.character(0), -1);
        due("character(127)", desk.character(127), -1);
        due("character(-1)", desk.character(-1), -1);
        due("character(65 + 2^8)", desk.character(321), -1);
        due("character(MIN)", desk.character(Integer.MIN_VALUE), -1);
        due("character(65)", desk.character(65), 6);
        due("laid out", Checks.laidOut(desk, "%s %s %s %s %s %s"), "'null true false \u0001 ~ A'");
    }

    private static void whole() {
        SpecifierDesk desk = new SpecifierDesk();
        int[] wrong = {0, 1, 7, 9, 24, 63, 65, 128, -8, Integer.MIN_VALUE, Integer.MAX_VALUE};
        for (int width : wrong) {
            due("whole of width " + width, desk.whole(1, width), -1);
        }
        due("whole 8", desk.whole(0x1FFL, 8), 1);
        due("whole 8", desk.whole(0x17FL, 8), 2);
        due("whole 16", desk.whole(0x18000L, 16), 3);
        due("whole 32", desk.whole(1L << 31, 32), 4);
        due("whole 64", desk.whole(Long.MIN_VALUE, 64), 5);
        due("whole 64", desk.whole(Long.MAX_VALUE, 64), 6);
        due("more on a short whole", desk.more(1), -1);
        due("scale on a short whole", desk.scale(1), -1);
        due("laid out", Checks.laidOut(desk, "%s %s %s %s %s %s"),
            "'-1 127 -32768 -2147483648 -9223372036854775808 9223372036854775807'");
    }

    private static void sizeAndMore() {
        SpecifierDesk desk = new SpecifierDesk();
        due("size", desk.size(true, -1L), 1);
        due("size", desk.size(true, 0), 2);
        due("more", desk.more(0), 2);
        due("size", desk.size(false, 1), 3);
        for (int i = 0; i < 7; i++) {
            due("more " + i, desk.more(i == 6 ? 5 : 0), 3);
        }
        due("more above 2^512", desk.more(0), -1);
        due("size", desk.size(false, 0), 4);
        for (int i = 0; i < 20; i++) {
            due("more of a leading 0", desk.more(0), 4);
        }
        due("more", desk.more(7), 4);
        due("more", desk.more(-1L), 4);
        String third = java.math.BigInteger.ONE.shiftLeft(448).add(java.math.BigInteger.valueOf(5)).toString();
        due("laid out", Checks.laidOut(desk, "%s %s %s %s"),
            "'-18446744073709551615 0 " + third + " 147573952589676412927'");
        desk.nothing();
        due("more on nothing", desk.more(1), -1);
        desk.text();
        due("more on a text", desk.more(1), -1);
        desk.truth(true);
        due("more on a truth", desk.more(1), -1);
        desk.character(65);
        due("more on a character", desk.more(1), -1);
    }

    private static void scale() {
        SpecifierDesk desk = new SpecifierDesk();
        desk.size(true, 12345);
        due("scale(401)", desk.scale(401), -1);
        due("scale(-401)", desk.scale(-401), -1);
        due("scale(MIN)", desk.scale(Integer.MIN_VALUE), -1);
        due("still a long whole", Checks.laidOut(desk, "%d"), "'-12345'");
        due("scale(3)", desk.scale(3), 1);
        due("scale on a decimal", desk.scale(3), -1);
        due("a decimal now", desk.layOut(), 11);
        due("more on a decimal", desk.more(1), 1);
        desk.size(false, 1);
        due("scale(400)", desk.scale(400), 2);
        desk.size(false, 1);
        due("scale(-400)", desk.scale(-400), 3);
        desk.clear();
        desk.size(true, 12345);
        desk.scale(3);
        desk.size(false, 1);
        desk.scale(400);
        desk.size(false, 1);
        desk.scale(-400);
        due("laid out", Checks.laidOut(desk, "%s %s %s"), "'-12.345 1E-400 1E+400'");
        desk.fraction(0, 1, 0);
        due("scale on a fraction", desk.scale(1), -1);
        desk.nothing();
        due("scale on nothing", desk.scale(1), -1);
    }

    private static void fraction() {
        SpecifierDesk desk = new SpecifierDesk();
        due("d -1", desk.fraction(0, -1, 0), -1);
        due("d 10^17", desk.fraction(0, 100000000000000000L, 0), -1);
        due("d MIN", desk.fraction(0, Long.MIN_VALUE, 0), -1);
        due("t 401", desk.fraction(0, 1, 401), -1);
        due("t -401", desk.fraction(0, 1, -401), -1);
        due("t MIN", desk.fraction(0, 1, Integer.MIN_VALUE), -1);
        due("most d", desk.fraction(0, 99999999999999999L, 400), 1);
        due("least d", desk.fraction(Long.MIN_VALUE, 0, -400), 2);
        due("laid out", Checks.laidOut(desk, "%s %s"), "'9.9999999999999999E416 -0.0'");
    }

    private static void text() {
        SpecifierDesk desk = new SpecifierDesk();
        due("empty text", desk.text(), 1);
        Checks.writeText(desk, TEXT_400);
        due("long text", desk.text(), 2);
        Checks.writeText(desk, "%d");
        due("text", desk.text(), 3);
        due("laid out", Checks.laidOut(desk, "%s|%s|%s"), "'|" + TEXT_400 + "|%d'");
        desk.clear();
        Checks.writeText(desk, "ab");
        desk.text();
        due("a text in a used place", Checks.laidOut(desk, "%s"), "'ab'");
    }

    private static void theThirteenthIsRefused() {
        SpecifierDesk desk = full();
        Checks.writeText(desk, "%12$s");
        due("13: nothing", desk.nothing(), -1);
        due("13: truth", desk.truth(true), -1);
        due("13: character", desk.character(65), -1);
        due("13: whole", desk.whole(1, 8), -1);
        due("13: size", desk.size(false, 1), -1);
        due("13: more", desk.more(1), -1);
        due("13: scale", desk.scale(1), -1);
        due("13: fraction", desk.fraction(0, 1, 0), -1);
        due("13: text", desk.text(), -1);
        due("13: the draft stays", desk.layOut(), 0);
        due("13: the arguments stay", Checks.resultOf(desk), "null");
        due("13: there is none", Checks.laidOut(desk, "%13$s"), "10");

        SpecifierDesk last = new SpecifierDesk();
        for (int i = 1; i <= 12; i++) {
            last.size(false, i);
        }
        due("12: more", last.more(0), 12);
        due("12: scale", last.scale(0), 12);
    }

    private static void lengthAndCharacterAt() {
        SpecifierDesk desk = new SpecifierDesk();
        Checks.laidOut(desk, "abc");
        due("length", desk.length(), 3);
        due("characterAt(0)", desk.characterAt(0), (int) 'a');
        due("characterAt(2)", desk.characterAt(2), (int) 'c');
        due("characterAt(3)", desk.characterAt(3), -1);
        due("characterAt(-1)", desk.characterAt(-1), -1);
        due("characterAt(MAX)", desk.characterAt(Integer.MAX_VALUE), -1);
        due("characterAt(MIN)", desk.characterAt(Integer.MIN_VALUE), -1);
        desk.clear();
        Checks.laidOut(desk, "x");
        due("a shorter result: length", desk.length(), 1);
        due("a shorter result: characterAt(1)", desk.characterAt(1), -1);
    }
}

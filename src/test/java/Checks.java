import java.util.function.Supplier;

/** Counts what is not as due, and helps to speak with a desk in texts. */
final class Checks {
    private int wrong;
    private String sentence = "";

    /** The sentence of the document that what follows is about. */
    void sentence(String words) {
        sentence = words + ": ";
    }

    void due(String what, Object got, Object want) {
        if (!got.equals(want)) {
            wrong++;
            System.out.println(sentence + what + " answered <" + got + ">, due is <" + want + ">");
        }
    }

    /** Each format, on a desk of its own, gives the text behind it. */
    void lays(Supplier<SpecifierDesk> desk, String... formatsAndTexts) {
        for (int i = 0; i + 1 < formatsAndTexts.length; i += 2) {
            due(formatsAndTexts[i], laidOut(desk.get(), formatsAndTexts[i]), "'" + formatsAndTexts[i + 1] + "'");
        }
    }

    /** Each format, on a desk of its own, has the fault. */
    void faulty(Supplier<SpecifierDesk> desk, int fault, String... formats) {
        for (String format : formats) {
            due(format, laidOut(desk.get(), format), String.valueOf(fault));
        }
    }

    void end() {
        if (wrong != 0) {
            System.out.println(wrong + " answers are not as due");
            System.exit(1);
        }
    }

    static boolean writeText(SpecifierDesk desk, String text) {
        boolean all = true;
        for (int start = 0; start < text.length(); start += 8) {
            all &= desk.write(packed(text.substring(start, Math.min(start + 8, text.length()))));
        }
        return all;
    }

    static long packed(String atMostEight) {
        long eight = 0;
        for (int i = 0; i < atMostEight.length(); i++) {
            eight = eight << 8 | atMostEight.charAt(i);
        }
        return eight;
    }

    /** A long result takes more calls than the document's 512; the class itself does not count them. */
    static String resultOf(SpecifierDesk desk) {
        StringBuilder result = new StringBuilder();
        for (int k = 0; k < desk.length(); k++) {
            result.append((char) desk.characterAt(k));
        }
        return result.toString();
    }

    /** The laid out text in quotes, or the fault's number; the draft becomes the format. */
    static String laidOut(SpecifierDesk desk, String format) {
        writeText(desk, format);
        int fault = desk.layOut();
        return fault == 0 ? "'" + resultOf(desk) + "'" : String.valueOf(fault);
    }
}

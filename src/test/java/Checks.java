/** Counts what is not as due, and helps to speak with a desk in texts. */
final class Checks {
    private int wrong;

    void due(String what, Object got, Object want) {
        if (!got.equals(want)) {
            wrong++;
            System.out.println(what + " answered <" + got + ">, due is <" + want + ">");
        }
    }

    void end() {
        if (wrong != 0) {
            System.out.println(wrong + " answers are not as due");
            System.exit(1);
        }
    }

    static boolean writeText(SpecifierDesk desk, String text) {
        boolean all = true;
        for (int start = 0; start < text.length(); start += 8) {
            all &= desk.write(packed(text.substring(start, Math.min(start + 8, text.length()))));
        }
        return all;
    }

    static long packed(String atMostEight) {
        long eight = 0;
        for (int i = 0; i < atMostEight.length(); i++) {
            eight = eight << 8 | atMostEight.charAt(i);
        }
        return eight;
    }

    static String resultOf(SpecifierDesk desk) {
        StringBuilder result = new StringBuilder();
        for (int k = 0; k < desk.length(); k++) {
            result.append((char) desk.characterAt(k));
        }
        return result.toString();
    }

    /** The laid out text in quotes, or the fault's number; the draft becomes the format. */
    static String laidOut(SpecifierDesk desk, String format) {
        writeText(desk, format);
        int fault = desk.layOut();
        return fault == 0 ? "'" + resultOf(desk) + "'" : String.valueOf(fault);
    }
}

/** New desks with one argument. */
final class Desks {
    static final String[] KINDS = {"nothing", "truth", "character", "short 8", "short 16", "short 32", "short 64", "long",
        "decimal", "fraction", "text"};

    private Desks() {
    }

    /** One argument more, of the kind; its value goes with every conversion of the kind. */
    static int add(SpecifierDesk desk, String kind) {
        switch (kind) {
            case "nothing":
                return desk.nothing();
            case "truth":
                return desk.truth(true);
            case "character":
                return desk.character('A');
            case "long":
                return desk.size(false, 65);
            case "decimal":
                // Behind a refused size the latest argument must not become a decimal.
                return desk.size(false, 65) < 0 ? -1 : desk.scale(0);
            case "fraction":
                return desk.fraction(0x4050400000000000L, 65, 0);
            case "text":
                return desk.text();
            default:
                return desk.whole(65, Integer.parseInt(kind.substring("short ".length())));
        }
    }

    static SpecifierDesk of(String kind) {
        SpecifierDesk desk = new SpecifierDesk();
        add(desk, kind);
        return desk;
    }

    static SpecifierDesk nothing() {
        return of("nothing");
    }

    static SpecifierDesk truth(boolean is) {
        SpecifierDesk desk = new SpecifierDesk();
        desk.truth(is);
        return desk;
    }

    static SpecifierDesk character(int c) {
        SpecifierDesk desk = new SpecifierDesk();
        desk.character(c);
        return desk;
    }

    static SpecifierDesk whole(long v, int width) {
        SpecifierDesk desk = new SpecifierDesk();
        desk.whole(v, width);
        return desk;
    }

    static SpecifierDesk size(boolean minus, long... words) {
        SpecifierDesk desk = new SpecifierDesk();
        desk.size(minus, words[0]);
        for (int i = 1; i < words.length; i++) {
            desk.more(words[i]);
        }
        return desk;
    }

    /** The greatest size, 2^512 - 1. */
    static SpecifierDesk greatest(boolean minus) {
        return size(minus, -1, -1, -1, -1, -1, -1, -1, -1);
    }

    static SpecifierDesk greatest(boolean minus, int scale) {
        SpecifierDesk desk = greatest(minus);
        desk.scale(scale);
        return desk;
    }

    static SpecifierDesk decimal(boolean minus, long size, int scale) {
        SpecifierDesk desk = size(minus, size);
        desk.scale(scale);
        return desk;
    }

    static SpecifierDesk fraction(long bits, long d, int t) {
        SpecifierDesk desk = new SpecifierDesk();
        desk.fraction(bits, d, t);
        return desk;
    }

    static SpecifierDesk text(String text) {
        SpecifierDesk desk = new SpecifierDesk();
        Checks.writeText(desk, text);
        desk.text();
        return desk;
    }
}

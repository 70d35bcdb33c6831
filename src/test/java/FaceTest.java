import java.lang.reflect.Constructor;
import java.lang.reflect.Field;
import java.lang.reflect.Method;
import java.lang.reflect.Modifier;
import java.util.Random;
import java.util.TreeSet;

/** The public face as the document has it, and that no call throws, whatever comes. */
public final class FaceTest {
    private static final Checks CHECKS = new Checks();
    private static final long[] LONGS = {0, 1, -1, 37, Long.MIN_VALUE, Long.MAX_VALUE, 0x2564L, 0x25312466L, 0x7FF0000000000000L};
    private static final int[] INTS = {0, 1, -1, 8, 16, 32, 64, 65, 126, 127, 400, -400, 401, Integer.MIN_VALUE, Integer.MAX_VALUE};

    public static void main(String[] args) {
        theFace();
        noCallThrows();
        CHECKS.end();
    }

    private static void theFace() {
        TreeSet<String> want = new TreeSet<>();
        for (String s : new String[] {"boolean write(long)", "void clear()", "int nothing()", "int truth(boolean)",
            "int character(int)", "int whole(long,int)", "int size(boolean,long)", "int more(long)", "int scale(int)",
            "int fraction(long,long,int)", "int text()", "int layOut()", "int length()", "int characterAt(int)"}) {
            want.add(s);
        }
        TreeSet<String> got = new TreeSet<>();
        for (Method m : SpecifierDesk.class.getDeclaredMethods()) {
            if (!Modifier.isPrivate(m.getModifiers())) {
                StringBuilder types = new StringBuilder();
                for (Class<?> type : m.getParameterTypes()) {
                    types.append(types.length() == 0 ? "" : ",").append(type.getName());
                }
                got.add(m.getReturnType().getName() + " " + m.getName() + "(" + types + ")");
            }
        }
        CHECKS.due("methods", got, want);
        for (Field field : SpecifierDesk.class.getDeclaredFields()) {
            CHECKS.due("private field " + field.getName(), Modifier.isPrivate(field.getModifiers()), true);
        }
        Constructor<?>[] constructors = SpecifierDesk.class.getDeclaredConstructors();
        CHECKS.due("constructors", constructors.length, 1);
        CHECKS.due("constructor's parameters", constructors[0].getParameterCount(), 0);
        CHECKS.due("class", SpecifierDesk.class.getModifiers(), Modifier.PUBLIC | Modifier.FINAL);
    }

    private static void noCallThrows() {
        Random random = new Random(7);
        for (int object = 0; object < 2000; object++) {
            SpecifierDesk desk = new SpecifierDesk();
            for (int call = 0; call < 512; call++) {
                int which = random.nextInt(call % 100 == 99 ? 15 : 14);
                try {
                    call(desk, which, random);
                } catch (RuntimeException e) {
                    CHECKS.due("call " + which, e, "no exception");
                }
            }
        }
    }

    private static long someLong(Random random) {
        return random.nextInt(3) == 0 ? random.nextLong() : LONGS[random.nextInt(LONGS.length)];
    }

    private static int someInt(Random random) {
        return random.nextInt(3) == 0 ? random.nextInt(200) - 50 : INTS[random.nextInt(INTS.length)];
    }

    private static long someText(Random random) {
        String alphabet = "%%%%..$<1239-#+ 0,(bscdoxefgaBSCXEGAnDy";
        long eight = 0;
        for (int i = random.nextInt(9); i > 0; i--) {
            eight = eight << 8 | alphabet.charAt(random.nextInt(alphabet.length()));
        }
        return eight;
    }

    private static void call(SpecifierDesk desk, int which, Random random) {
        switch (which) {
            case 0 -> desk.write(someLong(random));
            case 1 -> desk.write(someText(random));
            case 2 -> desk.nothing();
            case 3 -> desk.truth(random.nextBoolean());
            case 4 -> desk.character(someInt(random));
            case 5 -> desk.whole(someLong(random), someInt(random));
            case 6 -> desk.size(random.nextBoolean(), someLong(random));
            case 7 -> desk.more(someLong(random));
            case 8 -> desk.scale(someInt(random));
            case 9 -> desk.fraction(someLong(random), someLong(random), someInt(random));
            case 10 -> desk.text();
            case 11 -> desk.layOut();
            case 12 -> desk.length();
            case 13 -> desk.characterAt(someInt(random));
            default -> desk.clear();
        }
    }
}

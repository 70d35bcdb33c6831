import java.math.BigDecimal;
import java.math.BigInteger;
import java.math.MathContext;
import java.math.RoundingMode;
import java.util.List;
import java.util.regex.Matcher;
import java.util.regex.Pattern;

/** A second reading of the document, by regular expressions and the library's big numbers. */
final class Oracle {
    private static final Pattern SPECIFIER = Pattern.compile(
        "%(?:([1-9][0-9]*+)\\$|(<))?+([-#+ 0,(]*+)([1-9][0-9]*+)?+(?:\\.([0-9]++))?+(.)?+", Pattern.DOTALL);

    /** A value as the test knows it. */
    static final class Value {
        final String kind;
        BigInteger number = BigInteger.ZERO;
        int places;
        boolean minus;
        long bits;
        String text = "";

        Value(String kind) {
            this.kind = kind;
        }

        BigDecimal size() {
            return new BigDecimal(number.abs(), places);
        }

        boolean below() {
            return kind.equals("fraction") ? bits < 0 : minus && number.signum() != 0;
        }

        boolean beyond() {
            return kind.equals("fraction") && (bits >>> 52 & 2047) == 2047;
        }

        boolean noNumber() {
            return beyond() && Double.isNaN(Double.longBitsToDouble(bits));
        }

        boolean isWhole() {
            return isShort() || kind.equals("long");
        }

        boolean isShort() {
            return kind.startsWith("short");
        }
    }

    private final String format;
    private final List<Value> values;
    private final StringBuilder out = new StringBuilder();
    private String flags;
    private int width;
    private int precision;
    private char conversion;

    Oracle(String format, List<Value> values) {
        this.format = format;
        this.values = values;
    }

    /** The text in quotes, or the fault's number. */
    String answer() {
        Matcher reading = SPECIFIER.matcher(format);
        for (int at = format.indexOf('%'); at >= 0; at = format.indexOf('%', reading.end())) {
            reading.find(at);
            int fault = readingFault(reading);
            if (fault != 0) {
                return String.valueOf(fault);
            }
        }
        int fault = lay();
        return fault == 0 ? "'" + out + "'" : String.valueOf(fault);
    }


    private boolean has(String flag) {
        return flags.contains(flag);
    }

    private int readingFault(Matcher m) {
        String f = m.group(3);
        boolean wide = m.group(4) != null;
        boolean precise = m.group(5) != null;
        String c = m.group(6);
        if (c == null || c.equals(".") && !precise) {
            return 1;
        }
        for (int g : new int[] {1, 4, 5}) {
            if (m.group(g) != null && new BigInteger(m.group(g)).compareTo(BigInteger.valueOf(999)) > 0) {
                return 2;
            }
        }
        if (f.chars().distinct().count() != f.length()) {
            return 3;
        }
        if (!"bscdoxefgaBSCXEGA%n".contains(c)) {
            return 4;
        }
        c = c.toLowerCase();
        boolean number = "doxefga".contains(c);
        if (c.equals("n")) {
            return wide ? 5 : precise ? 6 : !f.isEmpty() ? 7 : 0;
        }
        if (precise && "%cdox".contains(c)) {
            return 6;
        }
        if (c.equals("%") && !f.replace("-", "").isEmpty()) {
            return 7;
        }
        if (!wide && (f.contains("-") || number && f.contains("0"))) {
            return 8;
        }
        if (number && (f.contains("+") && f.contains(" ") || f.contains("-") && f.contains("0"))) {
            return 7;
        }
        String own = switch (c) {
            case "d", "g" -> "-+ 0,(";
            case "o", "x", "e" -> "-#+ 0(";
            case "f" -> "-#+ 0,(";
            case "a" -> "-#+ 0";
            default -> "-";
        };
        return f.chars().allMatch(flag -> own.indexOf(flag) >= 0) ? 0 : 9;
    }

    private int lay() {
        Matcher m = SPECIFIER.matcher(format);
        int next = 1;
        int before = 0;
        int at = 0;
        while (at < format.length()) {
            if (format.charAt(at) != '%') {
                out.append(format.charAt(at));
                at++;
            } else {
                m.find(at);
                at = m.end();
                flags = m.group(3);
                width = m.group(4) == null ? 0 : Integer.parseInt(m.group(4));
                precision = m.group(5) == null ? -1 : Integer.parseInt(m.group(5));
                String c = m.group(6);
                conversion = c.toLowerCase().charAt(0);
                String part;
                if (conversion == 'n' || conversion == '%') {
                    part = padded(conversion == 'n' ? "\n" : "%");
                } else {
                    int number = m.group(2) != null ? before : m.group(1) != null ? Integer.parseInt(m.group(1)) : next++;
                    before = number;
                    if (number < 1 || number > values.size()) {
                        return 10;
                    }
                    Value v = values.get(number - 1);
                    int fault = kindFault(v);
                    if (fault != 0) {
                        return fault;
                    }
                    part = padded(body(v));
                }
                out.append(Character.isUpperCase(c.charAt(0)) ? part.toUpperCase() : part);
            }
            if (out.length() > 4000) {
                return 14;
            }
        }
        return 0;
    }

    private int kindFault(Value v) {
        boolean goes = switch (conversion) {
            case 'b', 's' -> true;
            case 'c' -> v.kind.equals("character") || v.isShort() && !v.kind.equals("short64");
            case 'd', 'o', 'x' -> v.isWhole();
            case 'a' -> v.kind.equals("fraction");
            default -> v.kind.equals("fraction") || v.kind.equals("decimal");
        };
        if (v.kind.equals("nothing")) {
            return 0;
        }
        if (!goes) {
            return 11;
        }
        if (conversion == 'c' && v.isShort() && (v.number.intValue() < 1 || v.number.intValue() > 126)) {
            return 12;
        }
        return v.isShort() && (conversion == 'o' || conversion == 'x') && (has("+") || has(" ") || has("(")) ? 13 : 0;
    }

    private String padded(String s) {
        String fill = " ".repeat(Math.max(0, width - s.length()));
        return has("-") ? s + fill : fill + s;
    }

    private String cut(String s) {
        return precision >= 0 && precision < s.length() ? s.substring(0, precision) : s;
    }

    private String body(Value v) {
        if (conversion == 'b') {
            return cut(v.kind.equals("truth") ? v.text : v.kind.equals("nothing") ? "false" : "true");
        }
        if (v.kind.equals("nothing")) {
            return conversion == 's' ? cut("null") : "null";
        }
        switch (conversion) {
            case 's':
                return cut(text(v));
            case 'c':
                return v.isShort() ? String.valueOf((char) v.number.intValue()) : v.text;
            case 'd':
                return together(v.below(), "", has(",") ? grouped(v.number.abs().toString()) : v.number.abs().toString());
            case 'o':
            case 'x':
                return based(v, conversion == 'o' ? 8 : 16);
            default:
                return v.noNumber() ? "NaN" : v.beyond() ? infinite(v) : fractional(v);
        }
    }

    private String infinite(Value v) {
        flags = flags.replace("0", "");
        return together(v.bits < 0, "", "Infinity");
    }

    private String fractional(Value v) {
        int p = precision < 0 ? 6 : precision;
        switch (conversion) {
            case 'e':
                return together(v.below(), "", scientific(v.size(), p));
            case 'f':
                return together(v.below(), "", fixed(v.size(), p));
            case 'g':
                return together(v.below(), "", general(v.size(), Math.max(1, p)));
            default:
                return together(v.below(), "0x", hex(v.bits & Long.MAX_VALUE));
        }
    }

    private String based(Value v, int base) {
        BigInteger n = v.number.abs();
        if (v.isShort()) {
            BigInteger all = BigInteger.ONE.shiftLeft(Integer.parseInt(v.kind.substring(5)));
            n = v.number.mod(all);
        }
        return together(!v.isShort() && v.below(), !has("#") ? "" : base == 8 ? "0" : "0x", n.toString(base));
    }

    private String together(boolean below, String prefix, String digits) {
        String front = (below ? has("(") ? "(" : "-" : has("+") ? "+" : has(" ") ? " " : "") + prefix;
        String behind = front.startsWith("(") ? ")" : "";
        int zeros = has("0") ? Math.max(0, width - front.length() - digits.length() - behind.length()) : 0;
        return front + "0".repeat(zeros) + digits + behind;
    }

    private static String grouped(String digits) {
        return digits.replaceAll("(?<=[0-9])(?=(?:[0-9]{3})+$)", ",");
    }

    private String scientific(BigDecimal size, int p) {
        BigDecimal r = size.round(new MathContext(p + 1, RoundingMode.HALF_UP));
        String all = r.unscaledValue().toString();
        int exponent = r.signum() == 0 ? 0 : all.length() - 1 - r.scale();
        all = (all + "0".repeat(p + 1)).substring(0, p + 1);
        String x = String.valueOf(Math.abs(exponent));
        return all.charAt(0) + (p > 0 || has("#") ? "." : "") + all.substring(1) + "e" + (exponent < 0 ? "-" : "+")
            + (x.length() < 2 ? "0" : "") + x;
    }

    private String fixed(BigDecimal size, int p) {
        String s = size.setScale(p, RoundingMode.HALF_UP).toPlainString();
        int point = s.indexOf('.') < 0 ? s.length() : s.indexOf('.');
        String whole = s.substring(0, point);
        return (has(",") ? grouped(whole) : whole) + s.substring(point) + (p == 0 && has("#") ? "." : "");
    }

    private String general(BigDecimal size, int p) {
        BigDecimal r = size.round(new MathContext(p, RoundingMode.HALF_UP));
        if (r.signum() == 0) {
            return fixed(r, p - 1);
        }
        if (r.compareTo(new BigDecimal("0.0001")) >= 0 && r.compareTo(BigDecimal.TEN.pow(p)) < 0) {
            return fixed(size, p - 1 - (r.precision() - 1 - r.scale()));
        }
        return scientific(size, p - 1);
    }

    private String hex(long bits) {
        double size = Double.longBitsToDouble(bits);
        int q = precision < 0 ? 13 : Math.max(1, precision);
        if (size == 0) {
            return "0." + "0".repeat(precision < 0 ? 1 : q) + "p0";
        }
        BigDecimal exact = new BigDecimal(size);
        int x = 1024;
        while (exact.compareTo(power(x)) < 0) {
            x--;
        }
        // exact / 2^x * 16^q, and halves of it have an end in decimal
        BigDecimal scaled = exact.multiply(power(-x)).multiply(new BigDecimal(BigInteger.ONE.shiftLeft(4 * q)));
        BigInteger n = scaled.setScale(0, RoundingMode.HALF_EVEN).unscaledValue();
        if (n.bitLength() > 4 * q + 1) {
            n = n.shiftRight(1);
            x++;
        }
        String digits = n.toString(16).substring(1);
        if (precision < 0) {
            digits = digits.replaceAll("(?<=.)0+$", "");
        }
        return "1." + digits + "p" + x;
    }

    private static BigDecimal power(int x) {
        return x >= 0 ? new BigDecimal(BigInteger.ONE.shiftLeft(x)) : new BigDecimal("0.5").pow(-x);
    }

    private static String text(Value v) {
        if (v.isWhole()) {
            return (v.below() ? "-" : "") + v.number.abs();
        }
        if (v.kind.equals("decimal")) {
            return (v.below() ? "-" : "") + v.size();
        }
        if (!v.kind.equals("fraction")) {
            return v.text;
        }
        if (v.noNumber()) {
            return "NaN";
        }
        return (v.bits < 0 ? "-" : "") + (v.beyond() ? "Infinity" : fractionText(v.size()));
    }

    private static String fractionText(BigDecimal size) {
        if (size.signum() == 0) {
            return "0.0";
        }
        BigDecimal s = size.stripTrailingZeros();
        int x = s.precision() - 1 - s.scale();
        if (x >= -3 && x <= 6) {
            return s.setScale(Math.max(1, s.scale())).toPlainString();
        }
        String digits = s.unscaledValue().toString();
        return digits.charAt(0) + "." + (digits.length() > 1 ? digits.substring(1) : "0") + "E" + x;
    }
}

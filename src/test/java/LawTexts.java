import java.util.ArrayList;
import java.util.List;
import java.util.Random;

/** Drawn texts of laws, and texts as words of the tape. */
final class LawTexts {
    private final Random random;

    LawTexts(Random random) {
        this.random = random;
    }

    private int some(int bound) {
        return random.nextInt(bound);
    }

    /** The text by fives of words, filled up with a's. */
    static List<int[]> words(String text) {
        List<int[]> list = new ArrayList<>();
        for (int at = 0; at < text.length(); at += 20) {
            int[] w = new int[5];
            for (int i = 0; i < 20; i++) w[i / 4] = w[i / 4] << 8 | (at + i < text.length() ? text.charAt(at + i) & 255 : 'a');
            list.add(w);
        }
        return list;
    }

    private String factor(int deep) {
        int n = some(10);
        if (n == 0 && deep > 0) return "[" + sum(deep - 1) + "]";
        if (n < 4) return String.valueOf(some(3) == 0 ? some(100000) : some(70));
        return String.valueOf("wabngkrhdxyv".charAt(some(12)));
    }

    private String sum(int deep) {
        StringBuilder b = new StringBuilder(factor(deep));
        for (int i = some(3); i > 0; i--) b.append("+-*/%".charAt(some(5))).append(factor(deep));
        return b.toString();
    }

    private String piece(int deep) {
        int n = some(8);
        if (n == 0 && deep > 0) return "!" + piece(deep - 1);
        if (n == 1 && deep > 0) return "(" + choice(deep - 1) + ")";
        return sum(deep) + "<>=".charAt(some(3)) + sum(deep);
    }

    private String choice(int deep) {
        StringBuilder b = new StringBuilder(piece(deep));
        for (int i = some(5) / 2; i > 0; i--) b.append("|&".charAt(some(2))).append(piece(deep));
        return b.toString();
    }

    String good() {
        StringBuilder b = new StringBuilder();
        if (some(3) > 0) b.append("ow*[1+r](w>").append(some(20)).append(");");
        if (some(3) > 0) b.append("p").append(some(120)).append("(1=1);");
        for (int i = 1 + some(some(6) == 0 ? 17 : 5); i > 0; i--) {
            b.append("oopl".charAt(some(4))).append(sum(some(6))).append("(").append(choice(some(6))).append(")");
            if (i > 1) b.append(';');
        }
        if (b.length() > 200) b.setLength(200);
        return b.toString();
    }

    /** Mostly one sign away from a good one, or more. */
    String bad() {
        int kind = some(6);
        StringBuilder b = new StringBuilder(kind == 0 ? "o1(!!!!!1=1)" : kind == 1 ? nested() : kind == 2 ? many() : good());
        for (int i = some(3); i >= 0; i--) {
            char c = "()[]!&|<>=+-*/%;0123456789wabngkrhdxyvoplq \u00e9".charAt(some(44));
            int at = some(b.length());
            if (some(2) == 0) b.setCharAt(at, c);
            else b.insert(at, c);
        }
        if (b.length() > 200) b.setLength(200);
        return b.toString();
    }

    private String nested() {
        StringBuilder b = new StringBuilder("ow");
        StringBuilder close = new StringBuilder();
        int from = some(2) * 2;
        if (from == 0) b.append("(");
        for (int i = 3 + some(4); i > 0; i--) {
            int n = some(3 - from / 2) + from / 2;
            b.append(from == 0 ? "(!".charAt(n % 2) : "+[".charAt(n == 1 ? 0 : 1));
            if (b.charAt(b.length() - 1) == '(') close.append(')');
            if (b.charAt(b.length() - 1) == '[') close.append(']');
            if (b.charAt(b.length() - 1) == '+') b.append("[").append("w+");
        }
        b.append(from == 0 ? "w=0" : "w").append(close);
        return b.append(from == 0 ? ")" : "(1=1)").toString();
    }

    private String many() {
        StringBuilder b = new StringBuilder("p9(w=9)");
        for (int i = 11 + some(4); i > 0; i--) b.append(";o").append(i).append("(x=").append(i % 4).append(")");
        return b.toString();
    }
}

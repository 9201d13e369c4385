/** The law's text worked out straight from its grammar, a method a rule. */
final class NaiveLaw {
    private static final class Fault extends RuntimeException {
        private static final long serialVersionUID = 1;
    }

    private final String text;
    private final int v, u, m, d, p, n;
    private int at, open;

    NaiveLaw(String text, int v, int u, int m, int d, int p, int n) {
        this.text = text;
        this.v = v;
        this.u = u;
        this.m = m;
        this.d = d;
        this.p = p;
        this.n = n;
    }

    private static boolean isWhole(String text) {
        try {
            new NaiveLaw(text, 1, 1, 1, 1, 1, 1).value();
            return true;
        } catch (Fault e) {
            return false;
        }
    }

    /** Whether some text goes on from this: an operand and brackets close whatever can be closed. */
    private static boolean goesOn(String begun) {
        String brackets = "";
        for (int i = 0; i <= 6; i++) {
            if (isWhole(begun + brackets) || isWhole(begun + "1" + brackets)) return true;
            brackets += ")";
        }
        return false;
    }

    /** -1: there is none. */
    static int fault(String text) {
        for (int i = 0; i < text.length(); i++) if (!goesOn(text.substring(0, i + 1))) return i;
        return isWhole(text) ? -1 : text.length();
    }

    int value() {
        at = 0;
        boolean counted = false;
        int answer = 0;
        while (true) {
            int first = e();
            int then = first;
            boolean tested = eat('?');
            if (tested) then = e();
            if (!counted && (!tested || first != 0)) {
                counted = true;
                answer = then;
            }
            if (at == text.length()) return answer;
            if (!eat(';')) throw new Fault();
        }
    }

    private boolean eat(char c) {
        if (at < text.length() && text.charAt(at) == c) {
            at++;
            return true;
        }
        return false;
    }

    private int e() {
        int x = a();
        while (eat('|')) {
            int y = a();
            x = x != 0 | y != 0 ? 1 : 0;
        }
        return x;
    }

    private int a() {
        int x = b();
        while (eat('&')) {
            int y = b();
            x = x != 0 & y != 0 ? 1 : 0;
        }
        return x;
    }

    private int b() {
        int x = s();
        if (eat('<')) return x < s() ? 1 : 0;
        if (eat('=')) return x == s() ? 1 : 0;
        if (eat('>')) return x > s() ? 1 : 0;
        return x;
    }

    private int s() {
        int x = p();
        while (true) {
            if (eat('+')) x += p();
            else if (eat('-')) x -= p();
            else return x;
        }
    }

    private int p() {
        int x = o();
        while (true) {
            if (eat('*')) {
                x *= o();
            } else if (eat('/')) {
                int y = o();
                x = y == 0 ? 0 : x / y;
            } else if (eat('%')) {
                int y = o();
                x = y == 0 ? 0 : x % y;
            } else {
                return x;
            }
        }
    }

    private int o() {
        if (at == text.length()) throw new Fault();
        char c = text.charAt(at);
        if (c >= '0' && c <= '9') {
            int x = 0;
            for (int i = 0; i < 4 && at < text.length() && Character.digit(text.charAt(at), 10) >= 0; i++) {
                x = 10 * x + text.charAt(at++) - '0';
            }
            return x;
        }
        at++;
        switch (c) {
            case 'v': return v;
            case 'u': return u;
            case 'm': return m;
            case 'd': return d;
            case 'p': return p;
            case 'n': return n;
            default:
        }
        if (c != '(' && c != '!' && c != '-' || open == 6) throw new Fault();
        open++;
        int x;
        if (c == '(') {
            x = e();
            if (!eat(')')) throw new Fault();
        } else {
            x = o();
            x = c == '-' ? -x : x == 0 ? 1 : 0;
        }
        open--;
        return x;
    }
}

/** A PrecRewrite and a Model that get the same calls, and must answer alike. */
final class Pair {
    private final Check check;
    private final String name;
    private final PrecRewrite x;
    private final Model m;
    private final StringBuilder calls = new StringBuilder();

    Pair(Check check, String name, int capacity) {
        this.check = check;
        this.name = name;
        x = new PrecRewrite(capacity);
        m = new Model(capacity);
    }

    int declare(int symbol, int kind, int level) {
        return alike("declare(" + symbol + ", " + kind + ", " + level + ")",
                x.declare(symbol, kind, level), m.declare(symbol, kind, level));
    }

    void undeclare(int symbol) {
        alike("undeclare(" + symbol + ")", x.undeclare(symbol), m.undeclare(symbol));
    }

    void addToken(int kind, int symbol) {
        alike("addToken(" + kind + ", " + symbol + ")", x.addToken(kind, symbol), m.addToken(kind, symbol));
    }

    void removeLast() {
        alike("removeLast()", x.removeLast(), m.removeLast());
    }

    void clearTokens() {
        calls.append(" clearTokens()");
        x.clearTokens();
        m.clearTokens();
    }

    int parse() {
        return alike("parse()", x.parse(), m.parse());
    }

    /** Every reading call, for every argument in the range and some outside it. */
    void readAll() {
        readResult();
        for (int s = -1; s <= 16; s++) {
            read("kindOf", s, x.kindOf(s), m.kindOf(s));
            read("levelOf", s, x.levelOf(s), m.levelOf(s));
        }
        for (int i = -1; i <= 16; i++) {
            read("tokenAt", i, x.tokenAt(i), m.tokenAt(i));
        }
        read("tokenCount", 0, x.tokenCount(), m.tokenCount());
    }

    void readResult() {
        read("treeCount", 0, x.treeCount(), m.treeCount());
        read("forestSize", 0, x.forestSize(), m.forestSize());
        read("root", 0, x.root(), m.root());
        for (int i = -1; i <= m.tokenCount() + 1; i++) {
            read("parent", i, x.parent(i), m.parent(i));
            read("spanFirst", i, x.spanFirst(i), m.spanFirst(i));
            read("spanLast", i, x.spanLast(i), m.spanLast(i));
        }
    }

    int tokenCount() {
        return m.tokenCount();
    }

    int kindOf(int symbol) {
        return m.kindOf(symbol);
    }

    private int alike(String call, int got, int want) {
        calls.append(' ').append(call);
        check.due(got == want ? call : name + ":" + calls, got, want);
        return want;
    }

    private void read(String call, int argument, int got, int want) {
        check.due(got == want ? call : name + ":" + calls + " " + call + "(" + argument + ")", got, want);
    }
}

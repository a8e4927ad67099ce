import java.util.ArrayList;
import java.util.List;

/**
 * The document in its plainest form: it lists every tree of the token string
 * and keeps those that are admissible. It answers every call of the face.
 */
final class Model {
    private static final class Tree {
        int token;
        int first;
        int last;
        Tree left;
        Tree right;
        int leftEdge = 7;
        int rightEdge = 7;
        boolean admissible = true;
    }

    private final int capacity;
    private final int[] kind = new int[16];
    private final int[] level = new int[16];
    private final List<int[]> tokens = new ArrayList<>();
    private boolean hasResult;
    private int forest;
    private List<Tree> kept;

    Model(int capacity) {
        this.capacity = Math.max(8, Math.min(16, capacity));
    }

    int declare(int symbol, int newKind, int newLevel) {
        if (symbol < 0 || symbol > 15) return 1;
        if (newKind < 1 || newKind > 5) return 2;
        if (newLevel < 1 || newLevel > 6) return 3;
        if (kind[symbol] != 0) return 4;
        for (int s = 0; s < 16; s++) {
            if (kind[s] != 0 && level[s] == newLevel && kind[s] != newKind) return 5;
        }
        kind[symbol] = newKind;
        level[symbol] = newLevel;
        hasResult = false;
        return 0;
    }

    int undeclare(int symbol) {
        if (symbol < 0 || symbol > 15) return 1;
        if (kind[symbol] == 0) return 6;
        kind[symbol] = 0;
        level[symbol] = 0;
        hasResult = false;
        return 0;
    }

    int kindOf(int symbol) {
        return symbol < 0 || symbol > 15 ? 0 : kind[symbol];
    }

    int levelOf(int symbol) {
        return symbol < 0 || symbol > 15 ? 0 : level[symbol];
    }

    int addToken(int tokenKind, int symbol) {
        if (tokenKind < 1 || tokenKind > 4) return 2;
        if (tokenKind == 2 && (symbol < 0 || symbol > 15)) return 1;
        if (tokens.size() == capacity) return 7;
        tokens.add(new int[] {tokenKind, symbol});
        hasResult = false;
        return 0;
    }

    int removeLast() {
        if (tokens.isEmpty()) return 8;
        tokens.remove(tokens.size() - 1);
        hasResult = false;
        return 0;
    }

    void clearTokens() {
        tokens.clear();
        hasResult = false;
    }

    int tokenCount() {
        return tokens.size();
    }

    int tokenAt(int i) {
        if (i < 0 || i >= tokens.size()) return -1;
        int[] t = tokens.get(i);
        return t[0] == 2 ? 32 + t[1] : t[0] * 16;
    }

    int parse() {
        List<Tree> all = listForest();
        forest = Math.min(all.size(), 1000000);
        kept = new ArrayList<>();
        for (Tree t : all) {
            if (t.admissible) kept.add(t);
        }
        hasResult = true;
        return treeCount();
    }

    int treeCount() {
        return hasResult ? Math.min(kept.size(), 2) : -1;
    }

    int forestSize() {
        return hasResult ? forest : -1;
    }

    int root() {
        return hasResult && kept.size() == 1 ? kept.get(0).token : -2;
    }

    int parent(int i) {
        if (!isShown(i)) return -2;
        Tree above = null;
        Tree at = kept.get(0);
        while (!isNodeOf(at, i)) {
            above = at;
            at = childOver(at, i);
        }
        return above == null ? -1 : above.token;
    }

    int spanFirst(int i) {
        return isShown(i) ? nodeOf(i).first : -2;
    }

    int spanLast(int i) {
        return isShown(i) ? nodeOf(i).last : -2;
    }

    private boolean isShown(int i) {
        return hasResult && kept.size() == 1 && i >= 0 && i < tokens.size();
    }

    private Tree nodeOf(int i) {
        Tree at = kept.get(0);
        while (!isNodeOf(at, i)) {
            at = childOver(at, i);
        }
        return at;
    }

    private boolean isNodeOf(Tree t, int i) {
        return t.token == i || tokens.get(i)[0] == 4 && tokens.get(t.token)[0] == 3 && t.last == i;
    }

    private static Tree childOver(Tree t, int i) {
        return t.left != null && i <= t.left.last && i >= t.left.first ? t.left : t.right;
    }

    private int operator(int i) {
        return tokens.get(i)[0] == 2 ? kind[tokens.get(i)[1]] : 0;
    }

    private List<Tree> listForest() {
        int n = tokens.size();
        List<List<Tree>> spans = new ArrayList<>();
        for (int i = 0; i < n * n; i++) spans.add(new ArrayList<>());
        for (int i = n - 1; i >= 0; i--) {
            for (int j = i; j < n; j++) {
                listSpan(spans, i, j);
            }
        }
        return n == 0 ? new ArrayList<>() : spans.get(n - 1);
    }

    private void listSpan(List<List<Tree>> spans, int i, int j) {
        int n = tokens.size();
        List<Tree> here = spans.get(i * n + j);
        if (i == j) {
            if (tokens.get(i)[0] == 1) here.add(node(i, i, j, null, null));
            return;
        }
        if (j >= i + 2 && tokens.get(i)[0] == 3 && tokens.get(j)[0] == 4) {
            for (Tree c : spans.get((i + 1) * n + j - 1)) here.add(node(i, i, j, null, c));
        }
        if (operator(i) == 1) {
            for (Tree c : spans.get((i + 1) * n + j)) here.add(node(i, i, j, null, c));
        }
        if (operator(j) == 2) {
            for (Tree c : spans.get(i * n + j - 1)) here.add(node(j, i, j, c, null));
        }
        for (int k = i + 1; k < j; k++) {
            if (operator(k) < 3) continue;
            for (Tree l : spans.get(i * n + k - 1)) {
                for (Tree r : spans.get((k + 1) * n + j)) here.add(node(k, i, j, l, r));
            }
        }
    }

    private Tree node(int token, int first, int last, Tree left, Tree right) {
        Tree t = new Tree();
        t.token = token;
        t.first = first;
        t.last = last;
        t.left = left;
        t.right = right;
        t.admissible = (left == null || left.admissible) && (right == null || right.admissible);
        int k = operator(token);
        if (k == 0) return t;
        int p = level[tokens.get(token)[1]];
        if (k == 1) {
            t.rightEdge = Math.min(p, right.rightEdge);
            t.admissible &= right.leftEdge > p;
        } else if (k == 2) {
            t.leftEdge = Math.min(p, left.leftEdge);
            t.admissible &= left.rightEdge > p;
        } else {
            t.leftEdge = Math.min(p, left.leftEdge);
            t.rightEdge = Math.min(p, right.rightEdge);
            t.admissible &= left.rightEdge > p || left.rightEdge == p && k == 3;
            t.admissible &= right.leftEdge > p || right.leftEdge == p && k == 4;
        }
        return t;
    }
}

public final class PrecRewrite {
    public static final int OK = 0;
    public static final int BAD_SYMBOL = 1;
    public static final int BAD_KIND = 2;
    public static final int BAD_LEVEL = 3;
    public static final int DECLARED = 4;
    public static final int LEVEL_CLASH = 5;
    public static final int UNDECLARED = 6;
    public static final int FULL = 7;
    public static final int EMPTY = 8;

    public static final int PREFIX = 1;
    public static final int POSTFIX = 2;
    public static final int LEFT = 3;
    public static final int RIGHT = 4;
    public static final int NONASSOC = 5;

    public static final int T_ATOM = 1;
    public static final int T_OP = 2;
    public static final int T_OPEN = 3;
    public static final int T_CLOSE = 4;

    public static final int NO_RESULT = -1;
    public static final int NONE = -1;
    public static final int INVALID = -2;
    public static final int NO_TREE = 0;
    public static final int ONE_TREE = 1;
    public static final int MANY_TREES = 2;
    public static final int FOREST_CAP = 1000000;

    public static final int SYMBOL_COUNT = 16;
    public static final int LEVEL_MIN = 1;
    public static final int LEVEL_MAX = 6;
    public static final int CAPACITY_MIN = 8;
    public static final int CAPACITY_MAX = 16;

    // The edge of a side without an operator: above every level, so it fits all.
    private static final int NO_EDGE = 7;

    // The shape of a tree is its two edges in one number, LE * 8 + RE. Whether
    // a tree may be a child depends on its shape alone, so the admissible trees
    // of a span are counted by shape and never listed one by one.
    private static final int EDGE_RANGE = 8;
    private static final int SHAPE_COUNT = 64;
    private static final int CLOSED_SHAPE = 63;
    // No tree has an edge 0, so shape 0 is free to say that a child is missing.
    private static final int NO_SHAPE = 0;

    private static final int SPAN_COUNT = 256;
    private static final int CELL_COUNT = 16384;

    private final int capacity;

    private final int[] symbolKind = new int[SYMBOL_COUNT];
    private final int[] symbolLevel = new int[SYMBOL_COUNT];

    private int tokens;
    private final int[] tokenKind = new int[CAPACITY_MAX];
    private final int[] tokenSymbol = new int[CAPACITY_MAX];

    private boolean hasResult;
    private int admissibleTrees;
    private int forestTrees;
    private int rootToken;
    private final int[] nodeParent = new int[CAPACITY_MAX];
    private final int[] nodeFirst = new int[CAPACITY_MAX];
    private final int[] nodeLast = new int[CAPACITY_MAX];

    // Trees of each span, admissible or not, capped at FOREST_CAP.
    private final int[] spanTrees = new int[SPAN_COUNT];

    // A cell is one span with one shape. Its tree count is capped at
    // MANY_TREES. The root and the child shapes are those of the tree noted
    // last, which is the cell's only tree when its count is 1.
    private final int[] cellTrees = new int[CELL_COUNT];
    private final int[] cellRoot = new int[CELL_COUNT];
    private final int[] cellLeftShape = new int[CELL_COUNT];
    private final int[] cellRightShape = new int[CELL_COUNT];

    // The nodes of the one admissible tree that are found, in the order found.
    private int found;
    private final int[] foundFirst = new int[CAPACITY_MAX];
    private final int[] foundLast = new int[CAPACITY_MAX];
    private final int[] foundShape = new int[CAPACITY_MAX];
    private final int[] foundParent = new int[CAPACITY_MAX];

    public PrecRewrite(int capacity) {
        if (capacity < CAPACITY_MIN) {
            this.capacity = CAPACITY_MIN;
        } else if (capacity > CAPACITY_MAX) {
            this.capacity = CAPACITY_MAX;
        } else {
            this.capacity = capacity;
        }
    }

    public int declare(int symbol, int kind, int level) {
        if (!isSymbol(symbol)) {
            return BAD_SYMBOL;
        }
        if (kind < PREFIX || kind > NONASSOC) {
            return BAD_KIND;
        }
        if (level < LEVEL_MIN || level > LEVEL_MAX) {
            return BAD_LEVEL;
        }
        if (symbolKind[symbol] != 0) {
            return DECLARED;
        }
        if (levelHasOtherKind(level, kind)) {
            return LEVEL_CLASH;
        }
        symbolKind[symbol] = kind;
        symbolLevel[symbol] = level;
        hasResult = false;
        return OK;
    }

    public int undeclare(int symbol) {
        if (!isSymbol(symbol)) {
            return BAD_SYMBOL;
        }
        if (symbolKind[symbol] == 0) {
            return UNDECLARED;
        }
        symbolKind[symbol] = 0;
        symbolLevel[symbol] = 0;
        hasResult = false;
        return OK;
    }

    public int kindOf(int symbol) {
        return isSymbol(symbol) ? symbolKind[symbol] : 0;
    }

    public int levelOf(int symbol) {
        return isSymbol(symbol) ? symbolLevel[symbol] : 0;
    }

    public int addToken(int kind, int symbol) {
        if (kind < T_ATOM || kind > T_CLOSE) {
            return BAD_KIND;
        }
        if (kind == T_OP && !isSymbol(symbol)) {
            return BAD_SYMBOL;
        }
        if (tokens >= capacity) {
            return FULL;
        }
        tokenKind[tokens] = kind;
        tokenSymbol[tokens] = kind == T_OP ? symbol : 0;
        tokens++;
        hasResult = false;
        return OK;
    }

    public int removeLast() {
        if (tokens == 0) {
            return EMPTY;
        }
        tokens--;
        hasResult = false;
        return OK;
    }

    public void clearTokens() {
        tokens = 0;
        hasResult = false;
    }

    public int tokenCount() {
        return tokens;
    }

    public int tokenAt(int i) {
        return isPosition(i) ? tokenKind[i] * 16 + tokenSymbol[i] : -1;
    }

    // Shorter spans first, because the children of a node have shorter spans.
    public int parse() {
        for (int length = 1; length <= tokens; length++) {
            for (int first = 0; first + length <= tokens; first++) {
                fillSpan(first, first + length - 1);
            }
        }
        countWholeString();
        if (admissibleTrees == ONE_TREE) {
            layOutTree();
        }
        hasResult = true;
        return admissibleTrees;
    }

    public int treeCount() {
        return hasResult ? admissibleTrees : NO_RESULT;
    }

    public int forestSize() {
        return hasResult ? forestTrees : NO_RESULT;
    }

    public int root() {
        return hasOneTree() ? rootToken : INVALID;
    }

    public int parent(int i) {
        return hasOneTree() && isPosition(i) ? nodeParent[i] : INVALID;
    }

    public int spanFirst(int i) {
        return hasOneTree() && isPosition(i) ? nodeFirst[i] : INVALID;
    }

    public int spanLast(int i) {
        return hasOneTree() && isPosition(i) ? nodeLast[i] : INVALID;
    }

    private static boolean isSymbol(int symbol) {
        return symbol >= 0 && symbol < SYMBOL_COUNT;
    }

    private boolean isPosition(int i) {
        return i >= 0 && i < tokens;
    }

    private boolean hasOneTree() {
        return hasResult && admissibleTrees == ONE_TREE;
    }

    private boolean levelHasOtherKind(int level, int kind) {
        for (int s = 0; s < SYMBOL_COUNT; s++) {
            if (symbolLevel[s] == level && symbolKind[s] != kind) {
                return true;
            }
        }
        return false;
    }

    private static int spanOf(int first, int last) {
        return first * CAPACITY_MAX + last;
    }

    private static int leftEdge(int shape) {
        return shape / EDGE_RANGE;
    }

    private static int rightEdge(int shape) {
        return shape % EDGE_RANGE;
    }

    private static int smaller(int a, int b) {
        return a < b ? a : b;
    }

    private int operatorKind(int token) {
        return tokenKind[token] == T_OP ? symbolKind[tokenSymbol[token]] : 0;
    }

    private static boolean isInfix(int kind) {
        return kind == LEFT || kind == RIGHT || kind == NONASSOC;
    }

    private void fillSpan(int first, int last) {
        emptySpan(first, last);
        if (first == last && tokenKind[first] == T_ATOM) {
            addAtom(first);
        }
        if (last >= first + 2 && tokenKind[first] == T_OPEN && tokenKind[last] == T_CLOSE) {
            addParen(first, last);
        }
        if (last > first && operatorKind(first) == PREFIX) {
            addPrefix(first, last);
        }
        if (last > first && operatorKind(last) == POSTFIX) {
            addPostfix(first, last);
        }
        for (int token = first + 1; token < last; token++) {
            int kind = operatorKind(token);
            if (isInfix(kind)) {
                addInfix(token, first, last);
            }
        }
    }

    private void emptySpan(int first, int last) {
        int span = spanOf(first, last);
        spanTrees[span] = 0;
        for (int shape = 0; shape < SHAPE_COUNT; shape++) {
            cellTrees[span * SHAPE_COUNT + shape] = 0;
        }
    }

    private void addAtom(int token) {
        int span = spanOf(token, token);
        addToForest(span, 1);
        noteTrees(span * SHAPE_COUNT + CLOSED_SHAPE, 1, token, NO_SHAPE, NO_SHAPE);
    }

    private void addParen(int first, int last) {
        int span = spanOf(first, last);
        int child = spanOf(first + 1, last - 1);
        int cell = span * SHAPE_COUNT + CLOSED_SHAPE;
        addToForest(span, spanTrees[child]);
        for (int shape = 0; shape < SHAPE_COUNT; shape++) {
            noteTrees(cell, cellTrees[child * SHAPE_COUNT + shape], first, NO_SHAPE, shape);
        }
    }

    private void addPrefix(int first, int last) {
        int span = spanOf(first, last);
        int child = spanOf(first + 1, last);
        int level = symbolLevel[tokenSymbol[first]];
        addToForest(span, spanTrees[child]);
        for (int shape = 0; shape < SHAPE_COUNT; shape++) {
            int left = leftEdge(shape);
            int right = rightEdge(shape);
            if (left > level) {
                int cell = span * SHAPE_COUNT + NO_EDGE * EDGE_RANGE + smaller(level, right);
                noteTrees(cell, cellTrees[child * SHAPE_COUNT + shape], first, NO_SHAPE, shape);
            }
        }
    }

    private void addPostfix(int first, int last) {
        int span = spanOf(first, last);
        int child = spanOf(first, last - 1);
        int level = symbolLevel[tokenSymbol[last]];
        addToForest(span, spanTrees[child]);
        for (int shape = 0; shape < SHAPE_COUNT; shape++) {
            int left = leftEdge(shape);
            int right = rightEdge(shape);
            if (right > level) {
                int cell = span * SHAPE_COUNT + smaller(level, left) * EDGE_RANGE + NO_EDGE;
                noteTrees(cell, cellTrees[child * SHAPE_COUNT + shape], last, shape, NO_SHAPE);
            }
        }
    }

    private void addInfix(int token, int first, int last) {
        int span = spanOf(first, last);
        int leftChild = spanOf(first, token - 1);
        int rightChild = spanOf(token + 1, last);
        int symbol = tokenSymbol[token];
        addToForest(span, (long) spanTrees[leftChild] * spanTrees[rightChild]);
        for (int shape = 0; shape < SHAPE_COUNT; shape++) {
            int edge = rightEdge(shape);
            if (cellTrees[leftChild * SHAPE_COUNT + shape] > 0 && operandFits(symbol, edge, LEFT)) {
                addInfixWithLeft(token, span, leftChild, shape, rightChild);
            }
        }
    }

    // An operand open at the symbol's own level fits on one side alone, the one
    // that the symbol associates to.
    private boolean operandFits(int symbol, int edge, int side) {
        int level = symbolLevel[symbol];
        return edge > level || edge == level && symbolKind[symbol] == side;
    }

    private void addInfixWithLeft(int token, int span, int leftChild, int leftShape, int rightChild) {
        int symbol = tokenSymbol[token];
        int level = symbolLevel[symbol];
        int leftTrees = cellTrees[leftChild * SHAPE_COUNT + leftShape];
        int outerLeft = leftEdge(leftShape);
        int newLeft = smaller(level, outerLeft);
        for (int shape = 0; shape < SHAPE_COUNT; shape++) {
            int edge = leftEdge(shape);
            int outerRight = rightEdge(shape);
            if (operandFits(symbol, edge, RIGHT)) {
                int cell = span * SHAPE_COUNT + newLeft * EDGE_RANGE + smaller(level, outerRight);
                int rightTrees = cellTrees[rightChild * SHAPE_COUNT + shape];
                noteTrees(cell, leftTrees * rightTrees, token, leftShape, shape);
            }
        }
    }

    // A capped part still gives the right capped sum, because neither adding a
    // count nor multiplying by one that is 1 or more makes it smaller.
    private void addToForest(int span, long trees) {
        long sum = spanTrees[span] + trees;
        spanTrees[span] = sum > FOREST_CAP ? FOREST_CAP : (int) sum;
    }

    private void noteTrees(int cell, int trees, int rootOfCell, int leftShape, int rightShape) {
        if (trees == 0) {
            return;
        }
        int sum = cellTrees[cell] + trees;
        cellTrees[cell] = sum > MANY_TREES ? MANY_TREES : sum;
        cellRoot[cell] = rootOfCell;
        cellLeftShape[cell] = leftShape;
        cellRightShape[cell] = rightShape;
    }

    private void countWholeString() {
        admissibleTrees = 0;
        forestTrees = 0;
        if (tokens == 0) {
            return;
        }
        int span = spanOf(0, tokens - 1);
        forestTrees = spanTrees[span];
        for (int shape = 0; shape < SHAPE_COUNT; shape++) {
            admissibleTrees += cellTrees[span * SHAPE_COUNT + shape];
        }
        admissibleTrees = smaller(admissibleTrees, MANY_TREES);
    }

    // Every node has an identifying token of its own, so CAPACITY_MAX nodes
    // are as many as there can be.
    private void layOutTree() {
        findRoot();
        for (int node = 0; node < found && node < CAPACITY_MAX; node++) {
            layOutNode(node);
        }
    }

    private void findRoot() {
        int span = spanOf(0, tokens - 1);
        found = 0;
        for (int shape = 0; shape < SHAPE_COUNT; shape++) {
            int cell = span * SHAPE_COUNT + shape;
            if (cellTrees[cell] > 0) {
                rootToken = cellRoot[cell];
                findNode(0, tokens - 1, shape, NONE);
            }
        }
    }

    private void layOutNode(int node) {
        int first = foundFirst[node];
        int last = foundLast[node];
        int above = foundParent[node];
        int cell = spanOf(first, last) * SHAPE_COUNT + foundShape[node];
        int token = cellRoot[cell];
        recordNode(token, first, last, above);
        findNode(first, token - 1, cellLeftShape[cell], token);
        if (tokenKind[token] == T_OPEN) {
            recordNode(last, first, last, above);
            findNode(first + 1, last - 1, cellRightShape[cell], token);
        } else {
            findNode(token + 1, last, cellRightShape[cell], token);
        }
    }

    private void findNode(int first, int last, int shape, int above) {
        if (shape == NO_SHAPE || found >= CAPACITY_MAX) {
            return;
        }
        foundFirst[found] = first;
        foundLast[found] = last;
        foundShape[found] = shape;
        foundParent[found] = above;
        found++;
    }

    private void recordNode(int token, int first, int last, int above) {
        nodeParent[token] = above;
        nodeFirst[token] = first;
        nodeLast[token] = last;
    }
}

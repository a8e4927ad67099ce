import java.util.LinkedHashMap;
import java.util.Map;

/** What the reading calls answer, by call, so that two moments can be compared. */
final class State {
    private static final int[] ARGUMENTS = {Integer.MIN_VALUE, -17, -1, 0, 1, 2, 3, 4, 5, 6, 7, 8, 9, 10, 11, 12, 13,
        14, 15, 16, 17, Integer.MAX_VALUE};

    private State() {
    }

    static Map<String, Integer> declarations(PrecRewrite x) {
        Map<String, Integer> answers = new LinkedHashMap<>();
        for (int s : ARGUMENTS) {
            answers.put("kindOf(" + s + ")", x.kindOf(s));
            answers.put("levelOf(" + s + ")", x.levelOf(s));
        }
        return answers;
    }

    static Map<String, Integer> tokens(PrecRewrite x) {
        Map<String, Integer> answers = new LinkedHashMap<>();
        answers.put("tokenCount()", x.tokenCount());
        for (int i : ARGUMENTS) {
            answers.put("tokenAt(" + i + ")", x.tokenAt(i));
        }
        return answers;
    }

    static Map<String, Integer> result(PrecRewrite x) {
        Map<String, Integer> answers = new LinkedHashMap<>();
        answers.put("treeCount()", x.treeCount());
        answers.put("forestSize()", x.forestSize());
        answers.put("root()", x.root());
        for (int i : ARGUMENTS) {
            answers.put("parent(" + i + ")", x.parent(i));
            answers.put("spanFirst(" + i + ")", x.spanFirst(i));
            answers.put("spanLast(" + i + ")", x.spanLast(i));
        }
        return answers;
    }

    static Map<String, Integer> all(PrecRewrite x) {
        Map<String, Integer> answers = declarations(x);
        answers.putAll(tokens(x));
        answers.putAll(result(x));
        return answers;
    }
}

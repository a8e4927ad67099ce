import java.util.function.ToIntBiFunction;

/** Promises 4 and 5: kindOf and levelOf. */
final class KindAndLevelTest {
    /** All 16 symbols declared, so that no wrapped argument could meet an undeclared one. */
    private static Scene withAllDeclared(Check check) {
        return new Scene(check, 8, "+L2 *L2 -P6 !Q1 ^R3 =N4 ?P6 ~P6 %L2 $Q1 #Q1 @R3 &R3 <N4 >N4 |N5");
    }

    private static void kinds(Check check) {
        check.sentence("`kindOf(symbol)` answers the kind (1..5) of symbol if it is in 0..15 and declared");
        isAsDeclared(check, "kindOf", PrecRewrite::kindOf, 3, 3, 1, 2, 4, 5, 1, 1, 3, 2, 2, 4, 4, 5, 5, 5);
    }

    private static void levels(Check check) {
        check.sentence("`levelOf(symbol)` answers the level (1..6) of symbol if it is in 0..15 and declared");
        isAsDeclared(check, "levelOf", PrecRewrite::levelOf, 2, 2, 6, 1, 3, 4, 6, 6, 2, 1, 1, 3, 3, 4, 4, 5);
    }

    private static void isAsDeclared(Check check, String call, ToIntBiFunction<PrecRewrite, Integer> reader,
            int... due) {
        PrecRewrite x = withAllDeclared(check).x;
        for (int s = 0; s < 16; s++) {
            check.due(call + "(" + s + ")", reader.applyAsInt(x, s), due[s]);
        }
    }

    private static void noKind(Check check) {
        check.sentence("and 0 if symbol is not in 0..15 (negative or above 15) or undeclared.");
        isZeroOtherwise(check, "kindOf", PrecRewrite::kindOf);
    }

    private static void noLevel(Check check) {
        check.sentence("and 0 if symbol is not in 0..15 or undeclared.");
        isZeroOtherwise(check, "levelOf", PrecRewrite::levelOf);
    }

    private static void isZeroOtherwise(Check check, String call, ToIntBiFunction<PrecRewrite, Integer> reader) {
        PrecRewrite x = withAllDeclared(check).x;
        for (int symbol : Range.outside(0, 15)) {
            check.due(call + "(" + symbol + ")", reader.applyAsInt(x, symbol), 0);
        }
        for (int s = 0; s < 16; s++) {
            x.undeclare(s);
            check.due(call + "(" + s + ") when undeclared", reader.applyAsInt(x, s), 0);
            check.due(call + "(" + s + ") on a fresh object", reader.applyAsInt(new PrecRewrite(8), s), 0);
        }
    }

    private static void kindOfChangesNothing(Check check) {
        check.sentence("or undeclared. It changes nothing.");
        Reading.changesNothing(check, "kindOf", PrecRewrite::kindOf);
    }

    private static void levelOfChangesNothing(Check check) {
        check.sentence("or undeclared. It changes nothing.");
        Reading.changesNothing(check, "levelOf", PrecRewrite::levelOf);
    }

    public static void main(String[] args) {
        Check check = new Check();
        kinds(check);
        noKind(check);
        kindOfChangesNothing(check);
        levels(check);
        noLevel(check);
        levelOfChangesNothing(check);
        check.end();
    }
}

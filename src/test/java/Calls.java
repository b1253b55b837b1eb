import java.util.ArrayList;
import java.util.List;
import java.util.function.BiFunction;

/** The calls of the face that take numbers, with the least and the greatest number that each place allows. */
final class Calls {
    record Call(String name, Class<? extends RuntimeException> refusal, int[] low, int[] high,
            BiFunction<AlibiDeals, int[], Object> own, BiFunction<Model, int[], Object> model) {
        String told(int[] numbers) {
            StringBuilder text = new StringBuilder(name).append('(');
            for (int i = 0; i < numbers.length; i++) {
                text.append(i > 0 ? ", " : "").append(numbers[i]);
            }
            return text.append(')').toString();
        }

        boolean allowsSome() {
            for (int i = 0; i < low.length; i++) {
                if (low[i] > high[i]) {
                    return false;
                }
            }
            return true;
        }

        /** All rows of numbers of which each one is the least or the greatest that is allowed. */
        List<int[]> corners() {
            List<int[]> rows = new ArrayList<>();
            for (int choice = 0; choice < 1 << low.length; choice++) {
                int[] row = new int[low.length];
                for (int i = 0; i < row.length; i++) {
                    row[i] = (choice >> i & 1) == 0 ? low[i] : high[i];
                }
                rows.add(row);
            }
            return rows;
        }

        /** Rows with one number that is not allowed, beside least ones and beside greatest ones, and with no number that is. */
        List<int[]> outside() {
            List<int[]> rows = new ArrayList<>();
            for (int i = 0; i < low.length; i++) {
                for (int no : new int[] {low[i] - 1, high[i] + 1, Integer.MIN_VALUE, Integer.MAX_VALUE}) {
                    rows.add(with(low, i, no));
                    rows.add(with(high, i, no));
                }
            }
            int[] below = low.clone();
            int[] above = high.clone();
            for (int i = 0; i < low.length; i++) {
                below[i]--;
                above[i]++;
            }
            rows.add(below);
            rows.add(above);
            return rows;
        }

        private static int[] with(int[] row, int at, int number) {
            int[] other = row.clone();
            other[at] = number;
            return other;
        }
    }

    private Calls() {
    }

    /** The calls with numbers on an object that has so many clues. */
    static List<Call> withNumbers(int clues) {
        List<Call> all = new ArrayList<>();
        changes(all);
        ofClues(all, clues - 1);
        ofCards(all);
        ofTriples(all);
        return all;
    }

    private static int[] row(int... numbers) {
        return numbers;
    }

    private static void add(List<Call> all, String name, int[] low, int[] high,
            BiFunction<AlibiDeals, int[], Object> own, BiFunction<Model, int[], Object> model) {
        all.add(new Call(name, Checks.INDEX, low, high, own, model));
    }

    private static void changes(List<Call> all) {
        add(all, "exchange", row(0, 0), row(8, 8), (x, a) -> x.exchange(a[0], a[1]), (m, a) -> m.exchange(a[0], a[1]));
        add(all, "noteHas", row(0, 0), row(2, 8), (x, a) -> x.noteHas(a[0], a[1]), (m, a) -> m.noteHas(a[0], a[1]));
        add(all, "noteLacks", row(0, 0), row(2, 8), (x, a) -> x.noteLacks(a[0], a[1]), (m, a) -> m.noteLacks(a[0], a[1]));
        add(all, "noteShows", row(0, 0, 3, 6), row(2, 2, 5, 8), (x, a) -> x.noteShows(a[0], a[1], a[2], a[3]),
                (m, a) -> m.noteShows(a[0], a[1], a[2], a[3]));
        add(all, "ask", row(0, 0, 3, 6), row(2, 2, 5, 8), (x, a) -> x.ask(a[0], a[1], a[2], a[3]),
                (m, a) -> m.ask(a[0], a[1], a[2], a[3]));
        add(all, "look", row(0, 0, 3, 6), row(2, 2, 5, 8), (x, a) -> x.look(a[0], a[1], a[2], a[3]),
                (m, a) -> m.look(a[0], a[1], a[2], a[3]));
        add(all, "accuse", row(0, 3, 6), row(2, 5, 8), (x, a) -> x.accuse(a[0], a[1], a[2]),
                (m, a) -> m.accuse(a[0], a[1], a[2]));
        all.add(new Call("append", Checks.ARGUMENT, row(33), row(126), (x, a) -> x.append(a[0]), (m, a) -> m.append(a[0])));
    }

    private static void ofClues(List<Call> all, int last) {
        add(all, "dropClue", row(0), row(last), (x, a) -> x.dropClue(a[0]), (m, a) -> m.dropClue(a[0]));
        add(all, "kindOf", row(0), row(last), (x, a) -> x.kindOf(a[0]), (m, a) -> m.kindOf(a[0]));
        add(all, "playerOf", row(0), row(last), (x, a) -> x.playerOf(a[0]), (m, a) -> m.playerOf(a[0]));
        add(all, "cardsOf", row(0), row(last), (x, a) -> x.cardsOf(a[0]), (m, a) -> m.cardsOf(a[0]));
        add(all, "isTrue", row(0), row(last), (x, a) -> x.isTrue(a[0]), (m, a) -> m.isTrue(a[0]));
        add(all, "dealsWithout", row(0), row(last), (x, a) -> x.dealsWithout(a[0]), (m, a) -> m.dealsWithout(a[0]));
    }

    private static void ofCards(List<Call> all) {
        add(all, "truePlace", row(0), row(8), (x, a) -> x.truePlace(a[0]), (m, a) -> m.truePlace(a[0]));
        add(all, "certainPlace", row(0), row(8), (x, a) -> x.certainPlace(a[0]), (m, a) -> m.certainPlace(a[0]));
        add(all, "placeByRules", row(0), row(8), (x, a) -> x.placeByRules(a[0]), (m, a) -> m.placeByRules(a[0]));
        add(all, "dealsWith", row(0, 0), row(8, 3), (x, a) -> x.dealsWith(a[0], a[1]), (m, a) -> m.dealsWith(a[0], a[1]));
        add(all, "mayBe", row(0, 0), row(8, 3), (x, a) -> x.mayBe(a[0], a[1]), (m, a) -> m.mayBe(a[0], a[1]));
        add(all, "mayBeByRules", row(0, 0), row(8, 3), (x, a) -> x.mayBeByRules(a[0], a[1]),
                (m, a) -> m.mayBeByRules(a[0], a[1]));
    }

    private static void ofTriples(List<Call> all) {
        add(all, "envelopeDeals", row(0), row(26), (x, a) -> x.envelopeDeals(a[0]), (m, a) -> m.envelopeDeals(a[0]));
        add(all, "dealsIfPassed", row(0, 0), row(2, 26), (x, a) -> x.dealsIfPassed(a[0], a[1]),
                (m, a) -> m.dealsIfPassed(a[0], a[1]));
        add(all, "leftBy", row(0, 0), row(2, 26), (x, a) -> x.leftBy(a[0], a[1]), (m, a) -> m.leftBy(a[0], a[1]));
        add(all, "bestQuestion", row(0), row(2), (x, a) -> x.bestQuestion(a[0]), (m, a) -> m.bestQuestion(a[0]));
    }
}

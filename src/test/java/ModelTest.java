import java.util.ArrayList;
import java.util.List;
import java.util.Random;
import java.util.function.Supplier;

/**
 * Runs of calls on the class and on the model side by side: every answer and
 * every exception is compared, the digest behind each call, and at the end of a
 * run every look there is. No object gets more than 512 calls.
 */
public final class ModelTest {
    private static final int MOST_CALLS = 512;
    private static final int RUNS = 360;
    private static final int LOOKS = 460;

    private final Random random;
    private final AlibiDeals x = new AlibiDeals();
    private final Model model = new Model();
    private final List<String> told = new ArrayList<>();
    private final boolean honest;
    private int calls;

    private ModelTest(int seed) {
        random = new Random(seed);
        honest = seed % 3 != 0;
    }

    public static void main(String[] args) {
        for (int seed = 0; seed < RUNS; seed++) {
            new ModelTest(seed).run(seed % 2 == 0 ? 20 : 8, seed);
        }
        for (int seed = RUNS; seed < RUNS + 40; seed++) {
            new ModelTest(seed).runLong(seed);
        }
        Checks.end();
    }

    /** Some steps, and all looks behind them. */
    private void run(int steps, int seed) {
        for (int i = 0; i < steps && calls < MOST_CALLS - LOOKS - 10; i++) {
            step();
        }
        lookAtAll();
        if (calls > MOST_CALLS) {
            Checks.tell("the test itself made " + calls + " calls in the run " + seed);
        }
    }

    /** Many steps, and only the digest behind each. */
    private void runLong(int seed) {
        while (calls < MOST_CALLS - 70) {
            step();
            compare("digest()", x::digest, model::digest);
        }
        if (calls > MOST_CALLS) {
            Checks.tell("the test itself made " + calls + " calls in the long run " + seed);
        }
    }

    private Object compare(String call, Supplier<Object> got, Supplier<Object> due) {
        calls++;
        told.add(call);
        Object want = answer(due);
        Object is = answer(got);
        if (!want.equals(is)) {
            Checks.tell(String.join(" ", told) + " answered " + is + ", due is " + want);
        }
        return want;
    }

    private static Object answer(Supplier<Object> call) {
        try {
            return call.get();
        } catch (RuntimeException e) {
            return "throws." + e.getClass().getSimpleName();
        }
    }

    private int number(int low, int high) {
        return low + random.nextInt(high - low + 1);
    }

    /** Mostly a number from low to high, now and then one beside them. */
    private int nearly(int low, int high) {
        int chance = random.nextInt(60);
        if (chance == 0) {
            return low - 1;
        }
        if (chance == 1) {
            return high + 1;
        }
        return number(low, high);
    }

    private void step() {
        int choice = random.nextInt(100);
        if (choice < 34) {
            question();
        } else if (choice < 62) {
            note();
        } else if (choice < 74) {
            text();
        } else if (choice < 86) {
            back();
        } else {
            change();
        }
    }

    private void question() {
        int p = nearly(0, 2);
        int s = nearly(0, 2);
        int t = nearly(3, 5);
        int r = nearly(6, 8);
        String cards = s + ", " + t + ", " + r + ")";
        switch (random.nextInt(3)) {
            case 0 -> compare("ask(" + p + ", " + cards, () -> x.ask(p, s, t, r), () -> model.ask(p, s, t, r));
            case 1 -> compare("look(" + p + ", " + cards, () -> x.look(p, s, t, r), () -> model.look(p, s, t, r));
            default -> compare("accuse(" + cards, () -> x.accuse(s, t, r), () -> model.accuse(s, t, r));
        }
    }

    private void note() {
        int c = nearly(0, 8);
        int p = nearly(0, 2);
        boolean has = random.nextInt(2) == 0;
        boolean there = c >= 0 && c < 9;
        if (there && honest && random.nextInt(10) != 0) {
            has = model.truePlace(c) == p;
        }
        if (random.nextInt(5) == 0) {
            int s = nearly(0, 2);
            int t = nearly(3, 5);
            int r = nearly(6, 8);
            compare("noteShows(" + p + ", " + s + ", " + t + ", " + r + ")",
                    () -> x.noteShows(p, s, t, r), () -> model.noteShows(p, s, t, r));
        } else if (has) {
            compare("noteHas(" + p + ", " + c + ")", () -> x.noteHas(p, c), () -> model.noteHas(p, c));
        } else {
            compare("noteLacks(" + p + ", " + c + ")", () -> x.noteLacks(p, c), () -> model.noteLacks(p, c));
        }
    }

    private void back() {
        switch (random.nextInt(4)) {
            case 0 -> compare("keep()", x::keep, model::keep);
            case 1 -> compare("restore()", x::restore, model::restore);
            default -> compare("undo()", x::undo, model::undo);
        }
    }

    private void change() {
        int a = nearly(0, 8);
        int b = random.nextInt(2) == 0 ? nearly(0, 8) : a / 3 * 3 + random.nextInt(3);
        int clue = number(-1, model.clues());
        switch (random.nextInt(8)) {
            case 0 -> compare("dropAll()", x::dropAll, model::dropAll);
            case 1, 2, 3 -> compare("dropClue(" + clue + ")", () -> x.dropClue(clue), () -> model.dropClue(clue));
            default -> compare("exchange(" + a + ", " + b + ")", () -> x.exchange(a, b), () -> model.exchange(a, b));
        }
    }

    private void text() {
        String text = works();
        if (random.nextInt(4) == 0) {
            int at = random.nextInt(text.length());
            String signs = "hlspniavx!:;0123456789 H~";
            text = text.substring(0, at) + signs.charAt(random.nextInt(signs.length()))
                    + text.substring(at + random.nextInt(2));
        }
        for (int i = 0; i < text.length() && calls < MOST_CALLS - 6; i++) {
            char code = text.charAt(i);
            compare("append(" + (int) code + ")", () -> x.append(code), () -> model.append(code));
        }
        if (random.nextInt(2) == 0) {
            compare("firstError()", x::firstError, model::firstError);
        }
        Object done = compare("work()", x::work, model::work);
        if (done instanceof String) {
            compare("firstError()", x::firstError, model::firstError);
            compare("clearBuffer()", x::clearBuffer, model::clearBuffer);
        }
    }

    private String works() {
        StringBuilder text = new StringBuilder(part());
        int more = random.nextInt(3);
        for (int i = 0; i < more; i++) {
            text.append(';').append(part());
        }
        return text.toString();
    }

    private String part() {
        int p = number(0, 2);
        int c = number(0, 8);
        int triple = number(0, 26);
        if (honest && random.nextInt(3) > 0) {
            return new String[] {"a" + p + ":" + triple, "v" + p + ":" + triple, "!" + triple}[random.nextInt(3)];
        }
        return switch (random.nextInt(10)) {
            case 0 -> "h" + p + ":" + c;
            case 1 -> "l" + p + ":" + c;
            case 2 -> "s" + p + ":" + triple;
            case 3 -> "p" + p + ":" + triple;
            case 4 -> "n" + triple;
            case 5 -> "i" + (random.nextInt(3) > 0 ? model.trueEnvelope() : triple);
            case 6 -> "a" + p + ":" + triple;
            case 7 -> "v" + p + ":" + triple;
            case 8 -> "!" + triple;
            default -> "x" + number(0, 19);
        };
    }

    private void lookAtAll() {
        lookAtCounts();
        for (int i = 0; i < model.clues(); i++) {
            int clue = i;
            compare("kindOf(" + i + ")", () -> x.kindOf(clue), () -> model.kindOf(clue));
            compare("playerOf(" + i + ")", () -> x.playerOf(clue), () -> model.playerOf(clue));
            compare("cardsOf(" + i + ")", () -> x.cardsOf(clue), () -> model.cardsOf(clue));
            compare("isTrue(" + i + ")", () -> x.isTrue(clue), () -> model.isTrue(clue));
            compare("dealsWithout(" + i + ")", () -> x.dealsWithout(clue), () -> model.dealsWithout(clue));
        }
        for (int i = 0; i < 9; i++) {
            lookAtCard(i);
        }
        for (int i = 0; i < 27; i++) {
            lookAtTriple(i);
        }
        compare("digest()", x::digest, model::digest);
    }

    private void lookAtCounts() {
        compare("trueEnvelope()", x::trueEnvelope, model::trueEnvelope);
        compare("clues()", x::clues, model::clues);
        compare("untrueClues()", x::untrueClues, model::untrueClues);
        compare("deals()", x::deals, model::deals);
        compare("dealsByHands()", x::dealsByHands, model::dealsByHands);
        compare("certainCards()", x::certainCards, model::certainCards);
        compare("isBroken()", x::isBroken, model::isBroken);
        compare("crossedOff()", x::crossedOff, model::crossedOff);
        compare("hiddenCrosses()", x::hiddenCrosses, model::hiddenCrosses);
        compare("envelopes()", x::envelopes, model::envelopes);
        compare("bestAccusation()", x::bestAccusation, model::bestAccusation);
        compare("isSolved()", x::isSolved, model::isSolved);
        compare("idleClues()", x::idleClues, model::idleClues);
        compare("savedStates()", x::savedStates, model::savedStates);
        compare("chance()", x::chance, model::chance);
        compare("hasStopped()", x::hasStopped, model::hasStopped);
        compare("stoppedPart()", x::stoppedPart, model::stoppedPart);
        compare("whyStopped()", x::whyStopped, model::whyStopped);
        for (int i = 0; i < 3; i++) {
            int player = i;
            compare("bestQuestion(" + i + ")", () -> x.bestQuestion(player), () -> model.bestQuestion(player));
        }
    }

    private void lookAtCard(int c) {
        compare("truePlace(" + c + ")", () -> x.truePlace(c), () -> model.truePlace(c));
        compare("certainPlace(" + c + ")", () -> x.certainPlace(c), () -> model.certainPlace(c));
        compare("placeByRules(" + c + ")", () -> x.placeByRules(c), () -> model.placeByRules(c));
        for (int i = 0; i < 4; i++) {
            int p = i;
            String of = "(" + c + ", " + p + ")";
            compare("dealsWith" + of, () -> x.dealsWith(c, p), () -> model.dealsWith(c, p));
            compare("mayBe" + of, () -> x.mayBe(c, p), () -> model.mayBe(c, p));
            compare("mayBeByRules" + of, () -> x.mayBeByRules(c, p), () -> model.mayBeByRules(c, p));
        }
    }

    private void lookAtTriple(int t) {
        compare("envelopeDeals(" + t + ")", () -> x.envelopeDeals(t), () -> model.envelopeDeals(t));
        for (int i = 0; i < 3; i++) {
            int p = i;
            String of = "(" + p + ", " + t + ")";
            compare("dealsIfPassed" + of, () -> x.dealsIfPassed(p, t), () -> model.dealsIfPassed(p, t));
            compare("leftBy" + of, () -> x.leftBy(p, t), () -> model.leftBy(p, t));
        }
    }
}

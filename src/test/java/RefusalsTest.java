import java.util.EnumMap;
import java.util.List;
import java.util.Map;
import java.util.function.Supplier;

/**
 * "A call that throws an exception changes nothing. If several exceptions apply,
 * the one that is named first in the throws clause is thrown." Each refused call
 * is made in states at the bounds, and the whole state behind it, the saved
 * states and the snapshot too, is compared with one where it was not made.
 */
public final class RefusalsTest {
    private static final Map<Scene, List<String>> UNTOUCHED = new EnumMap<>(Scene.class);

    public static void main(String[] args) {
        for (Scene scene : Scene.values()) {
            UNTOUCHED.put(scene, Scene.whole(scene.make()));
        }
        scenesAreAsTold();
        numbersJustOutside();
        numbersAtTheBounds();
        exchangeOfTheEnvelope();
        twentyClues();
        fullBuffer();
        textsThatAreNotComplete();
        noStop();
        noSavedState();
        noSnapshot();
        noDealLeft();
        Checks.end();
    }

    private static void dueSame(String call, List<String> got, List<String> want) {
        Checks.dueSame(call + ", the state behind it", got, want);
    }

    private static void dueRefused(Scene scene, String call, Class<? extends RuntimeException> want, Supplier<Object> run,
            AlibiDeals x) {
        Checks.dueSame(scene + ": " + call, Scene.answer(run), "throws." + want.getSimpleName());
        dueSame(scene + ": " + call, Scene.whole(x), UNTOUCHED.get(scene));
    }

    /** The states have what their names tell; else the tests below would test less. */
    private static void scenesAreAsTold() {
        AlibiDeals full = Scene.FULL.make();
        Checks.due("FULL: clues()", full.clues(), 20);
        Checks.due("FULL: savedStates()", full.savedStates(), 5);
        Checks.due("FULL: whyStopped()", full.whyStopped(), 1);
        Checks.due("FULL: stoppedPart()", full.stoppedPart(), 0);
        Checks.due("FULL: restore()", full.restore(), 1);
        Checks.due("FULL: whyStopped() of the snapshot", full.whyStopped(), 2);
        Checks.due("FULL: clearBuffer()", full.clearBuffer(), 3);
        AlibiDeals few = Scene.FEW.make();
        Checks.due("FEW: whyStopped()", few.whyStopped(), 2);
        Checks.due("FEW: stoppedPart()", few.stoppedPart(), 1);
        Checks.due("FEW: clues()", few.clues(), 2);
        Checks.due("PACKED: clearBuffer()", Scene.PACKED.make().clearBuffer(), 60);
        Checks.due("BROKEN: isBroken()", Scene.BROKEN.make().isBroken(), true);
        Checks.due("UNSEEN: isBroken()", Scene.UNSEEN.make().isBroken(), false);
        Checks.due("UNSEEN: deals()", Scene.UNSEEN.make().deals(), 0);
    }

    /** Just too small, just too large, and far away; with 20 clues, a full buffer or no deal left it is the same exception. */
    private static void numbersJustOutside() {
        for (Scene scene : Scene.values()) {
            for (Calls.Call call : Calls.withNumbers(scene.make().clues())) {
                for (int[] row : call.outside()) {
                    AlibiDeals x = scene.make();
                    dueRefused(scene, call.told(row), call.refusal(), () -> call.own().apply(x, row), x);
                }
            }
        }
    }

    /** The least and the greatest numbers are allowed; what the call answers then, also by an exception, the model tells. */
    private static void numbersAtTheBounds() {
        for (Scene scene : Scene.values()) {
            for (Calls.Call call : Calls.withNumbers(scene.make().clues())) {
                if (call.allowsSome()) {
                    call.corners().forEach(row -> dueAsModel(scene, call, row));
                }
            }
        }
    }

    private static void dueAsModel(Scene scene, Calls.Call call, int[] row) {
        AlibiDeals x = scene.make();
        Model m = scene.model();
        Object want = Scene.answer(() -> call.model().apply(m, row));
        Object got = Scene.answer(() -> call.own().apply(x, row));
        Checks.dueSame(scene + ": " + call.told(row), got, want);
        Checks.due(scene + ": digest() behind " + call.told(row), x.digest(), m.digest());
        if (want.equals("throws.IndexOutOfBoundsException") || want.equals("throws.IllegalArgumentException")) {
            Checks.tell("the model refuses " + call.told(row) + ", which is allowed");
        }
    }

    /** "if the envelope would not have one card of each kind": one card of the envelope, the other of another kind outside it. */
    private static void exchangeOfTheEnvelope() {
        for (Scene scene : Scene.values()) {
            AlibiDeals look = scene.make();
            for (int pair = 0; pair < 81; pair++) {
                int card = pair / 9;
                int other = pair % 9;
                boolean refused = look.truePlace(card) == 3 != (look.truePlace(other) == 3) && card / 3 != other / 3;
                AlibiDeals x = scene.make();
                String call = "exchange(" + card + ", " + other + ")";
                if (refused) {
                    dueRefused(scene, call, Checks.STATE, () -> x.exchange(card, other), x);
                } else {
                    int before = x.savedStates();
                    x.exchange(card, other);
                    Checks.due(scene + ": savedStates() behind " + call, x.savedStates(), Math.min(before + 1, 5));
                }
            }
        }
    }

    /** "if there are 20 clues", whatever the answer of the question would be. */
    private static void twentyClues() {
        for (int i = 0; i < 81; i++) {
            int p = i / 27;
            int s = i % 27 / 9;
            int t = 3 + i % 9 / 3;
            int r = 6 + i % 3;
            refuseTwenty("noteShows", x -> x.noteShows(p, s, t, r));
            refuseTwenty("ask", x -> x.ask(p, s, t, r));
            refuseTwenty("look", x -> x.look(p, s, t, r));
            refuseTwenty("accuse", x -> x.accuse(s, t, r));
        }
        for (int i = 0; i < 27; i++) {
            int p = i / 9;
            int c = i % 9;
            refuseTwenty("noteHas", x -> x.noteHas(p, c));
            refuseTwenty("noteLacks", x -> x.noteLacks(p, c));
        }
    }

    private static void refuseTwenty(String name, java.util.function.Function<AlibiDeals, Object> call) {
        AlibiDeals x = Scene.FULL.make();
        dueRefused(Scene.FULL, name + " with 20 clues", Checks.STATE, () -> call.apply(x), x);
    }

    /** "if the buffer has 60 characters", for each character; with 59 none is refused. */
    private static void fullBuffer() {
        for (int i = 33; i <= 126; i++) {
            int code = i;
            AlibiDeals x = Scene.PACKED.make();
            dueRefused(Scene.PACKED, "append(" + code + ")", Checks.STATE, () -> x.append(code), x);
            AlibiDeals y = Scene.FULL.make("clear", "+" + "n".repeat(59));
            Checks.due("append(" + code + ") with 59", y.append(code), 60);
        }
    }

    /** "if the buffer is not complete works as a text (the buffer stays)". */
    private static void textsThatAreNotComplete() {
        String[] texts = {"", "h", "l0", "s1:", "p", "n", "i", "a2", "v0:", "!", "x", ";", "n0;", ";n0", "n0;;n0", "n0;x", "n0;h2:",
            "h3:0", "h0:9", "l2:9", "s0:27", "p0:30", "n27", "i27", "a3:0", "v0:27", "!27", "x20", "x30", "h00:0", "h0:00", "n00",
            "n01", "x00", "x01", "x190", "n260", "~", "n0;n0;n0;n0;n0;n0;n0;n0;n0;n0;n0;n0;n0;n0;n0;n0;n0;n0;n0;n0;",
            "n0;n0;n0;n0;n0;n0;n0;n0;n0;n0;n0;n0;n0;n0;n0;n0;n0;n0;n0;h0:", "n".repeat(60)};
        for (Scene scene : new Scene[] {Scene.NEW, Scene.FEW, Scene.FULL, Scene.BROKEN}) {
            for (String text : texts) {
                AlibiDeals x = scene.make("clear", "+" + text);
                Checks.dueSame(scene + ": work() of " + text, Scene.answer(x::work), "throws.IllegalArgumentException");
                dueSame(scene + ": work() of " + text, Scene.whole(x), Scene.whole(scene.make("clear", "+" + text)));
                AlibiDeals y = scene.make("clear", "+" + text);
                Scene.answer(y::work);
                Checks.due(scene + ": clearBuffer() behind work() of " + text, y.clearBuffer(), text.length());
            }
        }
    }

    /** "if it did not stop": no works at all, works that were done, and what undo and restore bring back. */
    private static void noStop() {
        for (Scene scene : new Scene[] {Scene.NEW, Scene.PACKED, Scene.BROKEN, Scene.UNSEEN}) {
            AlibiDeals x = scene.make();
            dueRefused(scene, "stoppedPart()", Checks.STATE, x::stoppedPart, x);
            AlibiDeals y = scene.make();
            dueRefused(scene, "whyStopped()", Checks.STATE, y::whyStopped, y);
        }
        AlibiDeals x = Scene.FEW.make("undo");
        Checks.dueSame("stoppedPart() behind undo()", Scene.answer(x::stoppedPart), "throws.IllegalStateException");
        Checks.dueSame("whyStopped() behind undo()", Scene.answer(x::whyStopped), "throws.IllegalStateException");
        AlibiDeals y = Scene.FEW.make("restore");
        Checks.dueSame("stoppedPart() behind restore()", Scene.answer(y::stoppedPart), "throws.IllegalStateException");
        Checks.dueSame("whyStopped() behind restore()", Scene.answer(y::whyStopped), "throws.IllegalStateException");
    }

    /** undo: "if there is none"; on a new object, and when all are used up. */
    private static void noSavedState() {
        AlibiDeals x = Scene.NEW.make("+h0", "keep");
        AlibiDeals twin = Scene.NEW.make("+h0", "keep");
        Checks.dueSame("undo() without a saved state", Scene.answer(x::undo), "throws.IllegalStateException");
        dueSame("undo() without a saved state", Scene.whole(x), Scene.whole(twin));
        String[] back = {"undo", "undo", "undo", "undo", "undo"};
        AlibiDeals y = Scene.FULL.make(back);
        Checks.due("FULL: savedStates() behind five undo()", y.savedStates(), 0);
        Checks.dueSame("FULL: the sixth undo()", Scene.answer(y::undo), "throws.IllegalStateException");
        dueSame("FULL: the sixth undo()", Scene.whole(y), Scene.whole(Scene.FULL.make(back)));
    }

    /** restore: "if there is no snapshot"; saved states are none. */
    private static void noSnapshot() {
        AlibiDeals x = Scene.NEW.make();
        dueRefused(Scene.NEW, "restore()", Checks.STATE, x::restore, x);
        AlibiDeals y = Scene.UNSEEN.make();
        dueRefused(Scene.UNSEEN, "restore()", Checks.STATE, y::restore, y);
        String[] more = {"=n0", "=n1", "=n2", "=n3", "=n4;x9", "+n"};
        AlibiDeals z = Scene.NEW.make(more);
        Checks.dueSame("restore() with five saved states", Scene.answer(z::restore), "throws.IllegalStateException");
        dueSame("restore() with five saved states", Scene.whole(z), Scene.whole(Scene.NEW.make(more)));
    }

    /** bestAccusation, bestQuestion: "if no deal is left"; but a player that there is not is named first. */
    private static void noDealLeft() {
        for (Scene scene : new Scene[] {Scene.BROKEN, Scene.UNSEEN}) {
            AlibiDeals x = scene.make();
            dueRefused(scene, "bestAccusation()", Checks.STATE, x::bestAccusation, x);
            for (int i = 0; i < 3; i++) {
                int player = i;
                AlibiDeals y = scene.make();
                dueRefused(scene, "bestQuestion(" + i + ")", Checks.STATE, () -> y.bestQuestion(player), y);
            }
        }
    }
}

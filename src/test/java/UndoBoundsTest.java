import java.util.List;
import java.util.function.Consumer;

/** Bounds of undo and the snapshot: none, five and one more; what a state holds and what it doesn't; 512 calls. */
public final class UndoBoundsTest {
    public static void main(String[] args) {
        noneToFive();
        theOldestFallsOut();
        eachUndoableCallAsTheSixth();
        savedThoughNothingChanges();
        notUndoable();
        undoIsNotSaved();
        undoOfTheStop();
        undoOfTwentyClues();
        bufferIsNoPartOfAState();
        snapshotIsNoPartOfAState();
        savedStatesAreNoPartOfASnapshot();
        snapshotOfNoneAndTwenty();
        snapshotInPlaceOfTheOneBefore();
        snapshotStays();
        snapshotHasTheStop();
        restoreAsTheSixth();
        allCallsUpToTheLast();
        Checks.end();
    }

    private static void dueCards(AlibiDeals x, String where, int... cards) {
        Checks.due(where + ", clues()", x.clues(), cards.length);
        for (int clue = 0; clue < cards.length && clue < x.clues(); clue++) {
            Checks.due(where + ", cardsOf(" + clue + ")", x.cardsOf(clue), 1 << cards[clue]);
        }
    }

    /** undo: "Returns how many saved states are left"; "if there is none". */
    private static void noneToFive() {
        AlibiDeals x = new AlibiDeals();
        Checks.due("savedStates() at first", x.savedStates(), 0);
        Checks.dueThrows(x, "undo() at first", Checks.STATE, x::undo);
        for (int i = 1; i <= 5; i++) {
            x.noteHas(0, i);
            Checks.due("savedStates() behind " + i, x.savedStates(), i);
        }
        for (int i = 4; i >= 0; i--) {
            Checks.due("undo()", x.undo(), i);
            Checks.due("savedStates() behind undo()", x.savedStates(), i);
            Checks.due("clues() behind undo()", x.clues(), i);
        }
        Checks.dueThrows(x, "undo() of none", Checks.STATE, x::undo);
        Checks.due("digest() when all is undone", x.digest(), new AlibiDeals().digest());
    }

    /** "At most 5 states are saved; the oldest one is dropped first." */
    private static void theOldestFallsOut() {
        for (int calls = 5; calls <= 9; calls++) {
            AlibiDeals x = new AlibiDeals();
            for (int i = 0; i < calls; i++) {
                x.noteHas(0, i);
                Checks.due("savedStates() behind " + (i + 1), x.savedStates(), Math.min(i + 1, 5));
            }
            for (int i = 4; i >= 0; i--) {
                Checks.due("undo() of " + calls, x.undo(), i);
                int left = calls - 5 + i;
                dueCards(x, "undo() of " + calls, List.of(0, 1, 2, 3, 4, 5, 6, 7, 8).subList(0, left).stream()
                        .mapToInt(card -> card).toArray());
            }
            Checks.dueThrows(x, "the sixth undo() of " + calls, Checks.STATE, x::undo);
        }
    }

    private static void dueSixth(String call, Consumer<AlibiDeals> sixth) {
        AlibiDeals x = new AlibiDeals();
        for (int i = 0; i < 5; i++) {
            x.noteHas(0, i);
        }
        x.keep();
        Checks.type(x, "x0;h1:8");
        long before = x.digest();
        sixth.accept(x);
        Checks.due(call + ", savedStates()", x.savedStates(), 5);
        x.clearBuffer();
        Checks.due(call + ", undo()", x.undo(), 4);
        dueCards(x, call + ", undo()", 0, 1, 2, 3, 4);
        for (int i = 3; i >= 0; i--) {
            x.undo();
        }
        dueCards(x, call + ", five undo()", 0);
        Checks.dueThrows(x, call + ", the sixth undo()", Checks.STATE, x::undo);
        AlibiDeals y = new AlibiDeals();
        for (int i = 0; i < 5; i++) {
            y.noteHas(0, i);
        }
        Checks.type(y, "x0;h1:8");
        Checks.due(call + ", the digest before it", before, y.digest());
    }

    /** "Each method that is marked undoable ... saves the state from before it": with five saved, the oldest one goes. */
    private static void eachUndoableCallAsTheSixth() {
        dueSixth("exchange", x -> x.exchange(0, 1));
        dueSixth("noteHas", x -> x.noteHas(2, 8));
        dueSixth("noteLacks", x -> x.noteLacks(2, 8));
        dueSixth("noteShows", x -> x.noteShows(2, 2, 5, 8));
        dueSixth("dropClue", x -> x.dropClue(4));
        dueSixth("dropAll", x -> x.dropAll());
        dueSixth("ask", x -> x.ask(0, 0, 3, 6));
        dueSixth("look", x -> x.look(2, 0, 3, 8));
        dueSixth("accuse", x -> x.accuse(0, 3, 6));
        dueSixth("work", x -> x.work());
        dueSixth("restore", x -> x.restore());
    }

    /** "(also if it changes nothing)" */
    private static void savedThoughNothingChanges() {
        AlibiDeals x = new AlibiDeals();
        x.exchange(7, 7);
        Checks.due("savedStates() behind exchange(7, 7)", x.savedStates(), 1);
        x.exchange(7, 8);
        Checks.due("savedStates() behind exchange(7, 8)", x.savedStates(), 2);
        x.dropAll();
        Checks.due("savedStates() behind dropAll() of none", x.savedStates(), 3);
        x.keep();
        x.restore();
        Checks.due("savedStates() behind restore() of the same", x.savedStates(), 4);
        Checks.works(x, "x0");
        Checks.due("savedStates() behind works that do nothing", x.savedStates(), 5);
        for (int i = 4; i >= 0; i--) {
            Checks.due("undo() of a call that changed nothing", x.undo(), i);
        }
        Checks.due("digest() when all is undone", x.digest(), new AlibiDeals().digest());
    }

    /** append, clearBuffer, firstError and keep are not marked: with five saved states all five stay. */
    private static void notUndoable() {
        AlibiDeals x = new AlibiDeals();
        for (int i = 0; i < 5; i++) {
            x.noteHas(0, i);
        }
        x.append('h');
        x.firstError();
        x.clearBuffer();
        x.keep();
        x.digest();
        Checks.due("savedStates() behind calls that are not undoable", x.savedStates(), 5);
        for (int i = 4; i >= 0; i--) {
            Checks.due("undo()", x.undo(), i);
        }
        dueCards(x, "five undo()");
    }

    /** undo itself saves nothing: a change behind it takes the place of what was undone. */
    private static void undoIsNotSaved() {
        AlibiDeals x = new AlibiDeals();
        x.noteHas(0, 1);
        x.noteHas(0, 2);
        x.noteHas(0, 3);
        Checks.due("undo()", x.undo(), 2);
        Checks.due("undo() again", x.undo(), 1);
        x.noteHas(0, 4);
        Checks.due("savedStates() behind noteHas", x.savedStates(), 2);
        dueCards(x, "behind noteHas", 1, 4);
        x.undo();
        dueCards(x, "undo() of it", 1);
        x.undo();
        dueCards(x, "undo() of the first");
    }

    private static void dueStop(AlibiDeals x, String where, int part, int why) {
        Checks.due("hasStopped() " + where, x.hasStopped(), why != 0);
        if (why == 0) {
            Checks.dueThrows(x, "stoppedPart() " + where, Checks.STATE, x::stoppedPart);
            Checks.dueThrows(x, "whyStopped() " + where, Checks.STATE, x::whyStopped);
        } else {
            Checks.due("stoppedPart() " + where, x.stoppedPart(), part);
            Checks.due("whyStopped() " + where, x.whyStopped(), why);
        }
    }

    /** "all, also the latest stop with its reason": each of three stops comes back, and that there was none. */
    private static void undoOfTheStop() {
        AlibiDeals x = new AlibiDeals();
        Checks.works(x, "n1;x5");
        Checks.works(x, "n1;".repeat(18) + "n1;n2");
        Checks.works(x, "x19;n1;n1");
        Checks.works(x, "x0");
        dueStop(x, "behind x0", 0, 0);
        x.undo();
        dueStop(x, "behind the first undo()", 2, 1);
        x.undo();
        dueStop(x, "behind the second undo()", 19, 1);
        x.undo();
        dueStop(x, "behind the third undo()", 1, 2);
        x.noteHas(0, 0);
        dueStop(x, "behind noteHas", 1, 2);
        x.undo();
        dueStop(x, "behind undo() of noteHas", 1, 2);
        x.undo();
        dueStop(x, "behind the last undo()", 0, 0);
    }

    private static void undoOfTwentyClues() {
        AlibiDeals x = new AlibiDeals();
        for (int i = 0; i < 20; i++) {
            x.noteLacks(i / 9, i % 9);
        }
        x.dropAll();
        x.noteHas(2, 2);
        x.undo();
        x.undo();
        x.dropAll();
        x.undo();
        Checks.due("clues() undone", x.clues(), 20);
        for (int i = 0; i < 20; i++) {
            Checks.due("cardsOf(" + i + ") undone", x.cardsOf(i), 1 << i % 9);
            Checks.due("playerOf(" + i + ") undone", x.playerOf(i), i / 9);
        }
        Checks.dueThrows(x, "noteHas(0, 0), the 21st", Checks.STATE, () -> x.noteHas(0, 0));
        long before = x.digest();
        x.exchange(0, 1);
        x.dropAll();
        x.undo();
        x.undo();
        Checks.due("digest() undone", x.digest(), before);
    }

    private static void bufferIsNoPartOfAState() {
        for (int length : new int[] {0, 1, 60}) {
            AlibiDeals x = new AlibiDeals();
            x.noteHas(0, 0);
            x.keep();
            x.noteHas(0, 1);
            Checks.type(x, "~".repeat(length));
            x.undo();
            Checks.due("clearBuffer() behind undo()", x.clearBuffer(), length);
            x.undo();
            Checks.due("clearBuffer() behind undo() again", x.clearBuffer(), 0);
            Checks.type(x, "~".repeat(length));
            x.restore();
            Checks.due("clearBuffer() behind restore()", x.clearBuffer(), length);
        }
        AlibiDeals y = new AlibiDeals();
        Checks.works(y, "n0;n1");
        y.undo();
        Checks.due("clearBuffer() behind undo() of works", y.clearBuffer(), 0);
        Checks.type(y, "n2");
        y.keep();
        y.clearBuffer();
        y.restore();
        Checks.due("clearBuffer() behind restore() of a snapshot with a text", y.clearBuffer(), 0);
    }

    /** "all ... but the buffer, the saved states and the snapshot": undo doesn't bring back or take away a snapshot. */
    private static void snapshotIsNoPartOfAState() {
        AlibiDeals x = new AlibiDeals();
        x.noteHas(0, 0);
        x.keep();
        x.undo();
        Checks.due("restore() of a snapshot behind undo()", x.restore(), 1);
        x.noteHas(0, 1);
        x.keep();
        x.undo();
        x.undo();
        Checks.due("restore() of the later snapshot", x.restore(), 2);
        dueCards(x, "the later snapshot", 0, 1);
        x.undo();
        Checks.due("restore() once more", x.restore(), 2);
    }

    /** "(a snapshot has the same)": no saved states either. */
    private static void savedStatesAreNoPartOfASnapshot() {
        AlibiDeals x = new AlibiDeals();
        x.keep();
        x.noteHas(0, 0);
        x.noteHas(0, 1);
        x.restore();
        Checks.due("savedStates() behind restore()", x.savedStates(), 3);
        x.undo();
        dueCards(x, "undo() of restore()", 0, 1);
        x.undo();
        dueCards(x, "undo() of noteHas(0, 1)", 0);
        x.undo();
        x.noteHas(0, 2);
        x.keep();
        x.undo();
        Checks.due("savedStates() at the end", x.savedStates(), 0);
        x.restore();
        Checks.due("savedStates() behind restore() at the end", x.savedStates(), 1);
        dueCards(x, "restore() at the end", 2);
    }

    /** keep: "Returns the number of clues."; restore: "Returns the number of clues then." */
    private static void snapshotOfNoneAndTwenty() {
        AlibiDeals x = new AlibiDeals();
        Checks.due("keep() of none", x.keep(), 0);
        for (int i = 0; i < 20; i++) {
            x.noteLacks(i / 9, i % 9);
        }
        Checks.due("restore() of none", x.restore(), 0);
        Checks.due("deals() of none", x.deals(), 2430);
        x.undo();
        Checks.due("keep() of 20", x.keep(), 20);
        x.dropAll();
        Checks.due("restore() of 20", x.restore(), 20);
        for (int i = 0; i < 20; i++) {
            Checks.due("cardsOf(" + i + ") restored", x.cardsOf(i), 1 << i % 9);
            Checks.due("playerOf(" + i + ") restored", x.playerOf(i), i / 9);
        }
    }

    /** keep: "in place of the one before" */
    private static void snapshotInPlaceOfTheOneBefore() {
        AlibiDeals x = new AlibiDeals();
        x.noteHas(0, 0);
        x.noteHas(0, 1);
        Checks.due("keep() of two", x.keep(), 2);
        x.dropAll();
        x.exchange(0, 1);
        Checks.due("keep() of none", x.keep(), 0);
        x.exchange(0, 1);
        x.noteHas(0, 2);
        Checks.due("restore()", x.restore(), 0);
        Checks.due("trueEnvelope() restored", x.trueEnvelope(), 9);
        Checks.due("restore() again", x.restore(), 0);
    }

    /** restore: "which stays": what comes behind it doesn't change the snapshot. */
    private static void snapshotStays() {
        AlibiDeals x = new AlibiDeals();
        x.noteHas(0, 1);
        x.noteHas(0, 2);
        x.keep();
        for (int i = 0; i < 3; i++) {
            x.dropClue(0);
            x.noteLacks(1, 8);
            x.exchange(0, 2);
            Checks.works(x, "i26;x9");
            Checks.due("restore()", x.restore(), 2);
            dueCards(x, "restored", 1, 2);
            Checks.due("kindOf(1) restored", x.kindOf(1), 0);
            Checks.due("trueEnvelope() restored", x.trueEnvelope(), 0);
            Checks.due("hasStopped() restored", x.hasStopped(), false);
            Checks.due("deals() restored", x.deals(), 54);
        }
    }

    /** The snapshot has the latest stop with its reason. */
    private static void snapshotHasTheStop() {
        AlibiDeals x = new AlibiDeals();
        Checks.works(x, "n0;n1;x7");
        x.keep();
        Checks.works(x, "x5");
        x.restore();
        dueStop(x, "restored", 2, 2);
        Checks.works(x, "n0");
        dueStop(x, "behind works", 0, 0);
        x.restore();
        dueStop(x, "restored again", 2, 2);
        x.undo();
        dueStop(x, "behind undo() of restore()", 0, 0);
        Checks.works(x, "n1;".repeat(17) + "n1;n2");
        dueStop(x, "behind 19", 17, 1);
        x.keep();
        x.undo();
        x.restore();
        dueStop(x, "the reason 1 restored", 17, 1);
    }

    /** restore is undoable too: with five saved states the oldest one falls out. */
    private static void restoreAsTheSixth() {
        AlibiDeals x = new AlibiDeals();
        x.keep();
        for (int i = 0; i < 5; i++) {
            x.noteHas(0, i);
        }
        Checks.due("restore() as the sixth", x.restore(), 0);
        Checks.due("savedStates() behind it", x.savedStates(), 5);
        x.undo();
        dueCards(x, "undo() of it", 0, 1, 2, 3, 4);
        for (int i = 0; i < 4; i++) {
            x.undo();
        }
        dueCards(x, "the oldest one that is left", 0);
        Checks.dueThrows(x, "the sixth undo()", Checks.STATE, x::undo);
    }

    /** "An object is used for at most 512 calls": the last of them answers as the first one. */
    private static void allCallsUpToTheLast() {
        AlibiDeals x = new AlibiDeals();
        int calls = 0;
        for (int round = 0; round < 51; round++) {
            Checks.due("noteHas(0, 1) in the round " + round, x.noteHas(0, 1), 1);
            Checks.due("deals() in the round " + round, x.deals(), 540);
            Checks.due("noteLacks(1, 4) in the round " + round, x.noteLacks(1, 4), 2);
            x.exchange(1, 2);
            Checks.due("dealsByHands() in the round " + round, x.dealsByHands(), 540 - 144);
            x.keep();
            Checks.due("dropAll() in the round " + round, x.dropAll(), 2);
            Checks.due("restore() in the round " + round, x.restore(), 2);
            Checks.due("crossedOff() in the round " + round, x.crossedOff(), 4);
            Checks.due("dropAll() in the round " + round, x.dropAll(), 2);
            calls += 10;
        }
        Checks.due("undo(), the 511th", x.undo(), 4);
        Checks.due("clues(), the 512th", x.clues(), 2);
        Checks.due("the calls that were made", calls + 2, 512);
    }
}

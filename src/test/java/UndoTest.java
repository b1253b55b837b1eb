/** Promises 18 to 21: undo, the snapshot, saved states. */
public final class UndoTest {
    public static void main(String[] args) {
        promise18();
        promise18Five();
        promise18Deal();
        promise19();
        promise20();
        promise20Saved();
        promise21();
        Checks.end();
    }

    private static void promise18() {
        AlibiDeals x = new AlibiDeals();
        Checks.dueThrows(x, "18: undo() without a saved state", Checks.STATE, x::undo);
        x.noteHas(0, 1);
        x.noteLacks(0, 0);
        Checks.due("18: undo()", x.undo(), 1);
        Checks.due("18: clues()", x.clues(), 1);
        Checks.due("18: deals()", x.deals(), 540);
        Checks.due("18: dealsByHands()", x.dealsByHands(), 540);
        Checks.due("18: crossedOff()", x.crossedOff(), 3);
        Checks.due("18: undo() again", x.undo(), 0);
        Checks.due("18: clues() then", x.clues(), 0);
        Checks.due("18: deals() then", x.deals(), 2430);
        Checks.due("18: digest() then", x.digest(), new AlibiDeals().digest());
        Checks.dueThrows(x, "18: undo() once more", Checks.STATE, x::undo);
        Checks.type(x, "n0");
        x.noteHas(2, 2);
        Checks.type(x, ";n1");
        x.undo();
        Checks.due("18: the buffer stays, work()", x.work(), 2);
        x.undo();
        Checks.due("18: the buffer stays empty", x.clearBuffer(), 0);
    }

    private static void promise18Five() {
        AlibiDeals x = new AlibiDeals();
        for (int i = 1; i <= 8; i++) {
            x.noteHas(0, i % 9);
            Checks.due("18: savedStates() behind " + i, x.savedStates(), Math.min(i, 5));
        }
        for (int i = 1; i <= 5; i++) {
            Checks.due("18: undo()", x.undo(), 5 - i);
            Checks.due("18: clues()", x.clues(), 8 - i);
            Checks.due("18: cardsOf, the last", x.cardsOf(7 - i), 1 << 8 - i);
        }
        Checks.dueThrows(x, "18: the sixth undo()", Checks.STATE, x::undo);
        Checks.due("18: clues() at the end", x.clues(), 3);
        x.dropClue(0);
        Checks.due("18: savedStates() anew", x.savedStates(), 1);
        x.undo();
        Checks.due("18: cardsOf(0)", x.cardsOf(0), 2);
    }

    private static void promise18Deal() {
        AlibiDeals x = new AlibiDeals();
        x.exchange(0, 2);
        x.exchange(1, 8);
        x.accuse(2, 3, 6);
        x.undo();
        x.undo();
        Checks.due("18: truePlace(1)", x.truePlace(1), 0);
        Checks.due("18: trueEnvelope()", x.trueEnvelope(), 18);
        x.undo();
        Checks.due("18: trueEnvelope() at first", x.trueEnvelope(), 0);
        Checks.due("18: digest()", x.digest(), new AlibiDeals().digest());
    }

    private static void promise19() {
        AlibiDeals x = new AlibiDeals();
        Checks.due("19: keep() without clues", x.keep(), 0);
        Checks.due("19: savedStates()", x.savedStates(), 0);
        x.noteHas(0, 1);
        x.noteHas(0, 2);
        Checks.due("19: keep() with two", x.keep(), 2);
        x.noteHas(1, 4);
        Checks.due("19: restore(), the later one", x.restore(), 2);
        x.dropAll();
        Checks.due("19: keep() in its place", x.keep(), 0);
        x.noteHas(1, 5);
        Checks.due("19: restore() then", x.restore(), 0);
        Checks.due("19: savedStates() then", x.savedStates(), 5);
    }

    private static void promise20() {
        AlibiDeals x = new AlibiDeals();
        Checks.dueThrows(x, "20: restore() without a snapshot", Checks.STATE, x::restore);
        x.exchange(3, 4);
        x.noteHas(1, 3);
        x.noteShows(2, 0, 3, 8);
        x.keep();
        Checks.type(x, "n1");
        x.exchange(0, 1);
        x.dropClue(0);
        x.dropClue(0);
        x.noteLacks(0, 0);
        Checks.type(x, "3");
        Checks.due("20: restore()", x.restore(), 2);
        Checks.due("20: trueEnvelope()", x.trueEnvelope(), 3);
        Checks.due("20: kindOf(0)", x.kindOf(0), 0);
        Checks.due("20: kindOf(1)", x.kindOf(1), 2);
        Checks.due("20: cardsOf(1)", x.cardsOf(1), 1 + 8 + 256);
        Checks.due("20: the buffer stays, work()", x.work(), 1);
        Checks.due("20: the snapshot stays, restore()", x.restore(), 2);
        Checks.due("20: undo() of it", x.undo(), 4);
        Checks.due("20: clues() behind undo()", x.clues(), 3);
        Checks.due("20: restore() behind undo()", x.restore(), 2);
        Checks.due("20: restore() with nothing to change", x.restore(), 2);
        Checks.due("20: savedStates()", x.savedStates(), 5);
    }

    private static void promise20Saved() {
        AlibiDeals x = new AlibiDeals();
        x.noteHas(0, 0);
        x.keep();
        x.noteHas(0, 1);
        x.noteHas(0, 2);
        Checks.due("20: restore()", x.restore(), 1);
        Checks.due("20: savedStates(), not those of the snapshot", x.savedStates(), 4);
        Checks.due("20: undo()", x.undo(), 3);
        Checks.due("20: clues()", x.clues(), 3);
        Checks.due("20: undo() again", x.undo(), 2);
        Checks.due("20: clues() again", x.clues(), 2);
        x.undo();
        x.undo();
        Checks.due("20: restore() when all is undone", x.restore(), 1);
        Checks.due("20: deals()", x.deals(), 540);
    }

    /** Each call that is marked undoable saves one state, and no other call saves one. */
    private static void promise21() {
        AlibiDeals x = new AlibiDeals();
        dueSaved(x, "exchange", 1, () -> x.exchange(4, 4));
        dueSaved(x, "noteHas", 1, () -> x.noteHas(0, 1));
        dueSaved(x, "noteLacks", 1, () -> x.noteLacks(0, 0));
        dueSaved(x, "noteShows", 1, () -> x.noteShows(0, 1, 3, 6));
        dueSaved(x, "dropClue", 1, () -> x.dropClue(0));
        dueSaved(x, "dropAll", 1, () -> x.dropAll());
        dueSaved(x, "dropAll of none", 1, () -> x.dropAll());
        dueSaved(x, "ask", 1, () -> x.ask(0, 1, 3, 6));
        dueSaved(x, "look", 1, () -> x.look(0, 1, 3, 6));
        dueSaved(x, "accuse", 1, () -> x.accuse(0, 3, 6));
        dueSaved(x, "append", 0, () -> Checks.type(x, "x9"));
        dueSaved(x, "firstError", 0, () -> x.firstError());
        dueSaved(x, "work", 1, () -> x.work());
        dueSaved(x, "clearBuffer", 0, () -> x.clearBuffer());
        dueSaved(x, "keep", 0, () -> x.keep());
        dueSaved(x, "restore", 1, () -> x.restore());
        dueSaved(x, "deals", 0, () -> x.deals());
        dueSaved(x, "bestQuestion", 0, () -> x.bestQuestion(0));
        dueSaved(x, "bestAccusation", 0, () -> x.bestAccusation());
        dueSaved(x, "dealsWithout", 0, () -> x.dealsWithout(0));
        dueSaved(x, "idleClues", 0, () -> x.idleClues());
        dueSaved(x, "digest", 0, () -> x.digest());
        dueSaved(x, "hiddenCrosses", 0, () -> x.hiddenCrosses());
        dueSaved(x, "undo", -1, () -> x.undo());
        for (int i = 0; i < 6; i++) {
            x.noteHas(0, 0);
        }
        Checks.due("21: savedStates(), at most", x.savedStates(), 5);
    }

    private static void dueSaved(AlibiDeals x, String call, int more, Checks.Call run) {
        while (x.savedStates() > 2) {
            x.undo();
        }
        int before = x.savedStates();
        run.run();
        Checks.due("21: savedStates() behind " + call, x.savedStates(), before + more);
    }
}

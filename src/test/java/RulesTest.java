/** Promises 36 to 40: what follows from clues by rules alone. */
public final class RulesTest {
    public static void main(String[] args) {
        ruleOfEachClue();
        rulesOfKindsAndPlayers();
        rulesInChains();
        breakdowns();
        noBreakdowns();
        promise40();
        changes();
        droppedClues();
        refusals();
        Checks.end();
    }

    private static void ruleOfEachClue() {
        Sheets.dueSheet("", "* * * * * * * * *");
        Sheets.dueSheet("h0:0", "0 * * * * * * * *");
        Sheets.dueSheet("h2:7", "* * * * * * * 2 *");
        Sheets.dueSheet("l0:0", "123 * * * * * * * *");
        Sheets.dueSheet("l2:8", "* * * * * * * * 013");
        Sheets.dueSheet("p1:0", "023 * * 023 * * 023 * *");
        Sheets.dueSheet("p2:26", "* * 013 * * 013 * * 013");
        Sheets.dueSheet("i0", "3 012 012 3 012 012 3 012 012");
        Sheets.dueSheet("i14", "012 3 012 012 3 012 012 012 3");
        Sheets.dueSheet("s0:0", "* * * * * * * * *");
        Sheets.dueSheet("s0:0;l0:0", "123 * * * * * * * *");
        Sheets.dueSheet("s0:0;l0:0;l0:3", "123 * * 123 * * 0 * *");
        Sheets.dueSheet("l0:3;l0:6;s0:0", "0 * * 123 * * 123 * *");
        Sheets.dueSheet("n0", "* * * * * * * * *");
        Sheets.dueSheet("n0;l0:0;l1:0;l2:0", "3 012 012 * * * * * *");
    }

    private static void rulesOfKindsAndPlayers() {
        Sheets.dueSheet("l0:0;l1:0;l2:0;l0:3;l1:3;l2:3", "3 012 012 3 012 012 * * *");
        Sheets.dueSheet("n0;l0:0;l1:0;l2:0;l0:3;l1:3;l2:3", "3 012 012 3 012 012 012 * *");
        Sheets.dueSheet("l0:0;l1:0;l2:0;l0:6;l1:6;l2:6;n0", "3 012 012 012 * * 3 012 012");
        Sheets.dueSheet("l0:3;l1:3;l2:3;l0:6;l1:6;l2:6;n0", "012 * * 3 012 012 3 012 012");
        Sheets.dueSheet("h0:0;h1:1", "0 1 3 * * * * * *");
        Sheets.dueSheet("h2:4;h0:5", "* * * 3 2 0 * * *");
        Sheets.dueSheet("h0:3;h1:6", "* * * 0 * * 1 * *");
        Sheets.dueSheet("h0:0;h0:3", "0 123 123 0 123 123 123 123 123");
        Sheets.dueSheet("h1:8;h1:3", "023 023 023 1 023 023 023 023 1");
        Sheets.dueSheet("h0:0;h0:1", "0 0 3 123 123 123 123 123 123");
        Sheets.dueSheet("l2:0;l2:1;l2:2;l2:3;l2:4;l2:5;l2:6", "013 013 013 013 013 013 3 2 2");
        Sheets.dueSheet("l0:0;l0:1;l0:2;l0:3;l0:4;l0:6;l0:7", "123 123 123 123 123 0 123 123 0");
    }

    private static void rulesInChains() {
        Sheets.dueSheet("i0;h0:1;h0:2;h1:4;h1:5", "3 0 0 3 1 1 3 2 2");
        Sheets.dueSheet("i0;h0:1;h0:2;h1:4;h2:5", "3 0 0 3 1 2 3 12 12");
        Sheets.dueSheet("s0:0;p0:1", "123 * * 123 * * 0 123 *");
        Sheets.dueSheet("h0:0;h0:3;s1:3;l1:6", "0 123 123 0 1 3 23 123 123");
        Sheets.dueSheet("s2:13;h0:1;h1:4", "* 0 * * 1 * * 2 *");
        Sheets.dueSheet("n9;h0:0;h1:2;h0:4;h2:5", "0 3 1 3 0 2 12 123 123");
    }

    private static void breakdowns() {
        Sheets.dueBroken("h0:0;h1:0");
        Sheets.dueBroken("h0:0;l0:0");
        Sheets.dueBroken("l0:0;l1:0;l2:0;i9");
        Sheets.dueBroken("h0:0;p0:0");
        Sheets.dueBroken("h0:0;h1:1;h2:2");
        Sheets.dueBroken("h0:3;h0:4;h1:5");
        Sheets.dueBroken("h2:6;h1:7;h2:8");
        Sheets.dueBroken("i0;i9");
        Sheets.dueBroken("i0;i26");
        Sheets.dueBroken("l0:0;l1:0;l2:0;l0:1;l1:1;l2:1");
        Sheets.dueBroken("l0:0;l0:1;l0:2;l0:3;l0:4;l0:5;l0:6;l0:7");
        Sheets.dueBroken("p1:0;p1:13;p1:26");
        Sheets.dueBroken("h0:0;h0:3;h0:6");
        Sheets.dueBroken("h2:0;h2:1;h2:3");
        Sheets.dueBroken("s0:0;l0:0;l0:3;l0:6");
        Sheets.dueBroken("s1:26;p1:26");
        Sheets.dueBroken("i0;n0");
        Sheets.dueBroken("i13;s0:13");
        Sheets.dueBroken("n26;i26");
    }

    /** No deal is left, but the rules alone don't see it. */
    private static void noBreakdowns() {
        AlibiDeals x = Checks.with("h1:6;s1:8;s1:10");
        Sheets.dueSheet(x, "h1:6;s1:8;s1:10", "* * * * * * 1 * *");
        Checks.due("36: isBroken()", x.isBroken(), false);
        Checks.due("30: deals()", x.deals(), 0);
        Checks.due("40: hiddenCrosses(), none left", x.hiddenCrosses(), 33);
    }

    private static void promise40() {
        Checks.due("40: hiddenCrosses() at first", new AlibiDeals().hiddenCrosses(), 0);
        Checks.due("40: hiddenCrosses() of h0:0", Checks.with("h0:0").hiddenCrosses(), 0);
        Checks.due("40: hiddenCrosses() of h1:3;s1:5", Checks.with("h1:3;s1:5").hiddenCrosses(), 5);
        Checks.due("39: crossedOff() of h1:3;s1:5", Checks.with("h1:3;s1:5").crossedOff(), 3);
        Checks.due("40: hiddenCrosses() of s2:18;s2:5", Checks.with("s2:18;s2:5").hiddenCrosses(), 3);
        Checks.due("39: crossedOff() of s2:18;s2:5", Checks.with("s2:18;s2:5").crossedOff(), 0);
        Checks.due("40: hiddenCrosses() of i0;n0", Checks.with("i0;n0").hiddenCrosses(), 0);
        Checks.due("40: hiddenCrosses() of one deal", Checks.with("i0;h0:1;h0:2;h1:4;h1:5").hiddenCrosses(), 0);
    }

    /** The sheet follows each change of the clues, also the way back from a breakdown. */
    private static void changes() {
        AlibiDeals x = new AlibiDeals();
        x.noteHas(0, 0);
        Checks.due("39: crossedOff() of one clue", x.crossedOff(), 3);
        x.noteHas(1, 0);
        Checks.due("36: isBroken() of two", x.isBroken(), true);
        x.undo();
        Checks.due("36: isBroken() behind undo()", x.isBroken(), false);
        Checks.due("39: crossedOff() behind undo()", x.crossedOff(), 3);
        x.noteHas(1, 0);
        x.dropClue(0);
        Checks.due("38: placeByRules(0) behind dropClue(0)", x.placeByRules(0), 1);
        x.keep();
        x.dropAll();
        Checks.due("39: crossedOff() behind dropAll()", x.crossedOff(), 0);
        x.restore();
        Checks.due("38: placeByRules(0) behind restore()", x.placeByRules(0), 1);
        x.exchange(1, 4);
        Checks.due("38: placeByRules(0) behind exchange(1, 4)", x.placeByRules(0), 1);
        Checks.works(x, "i0");
        Checks.due("36: isBroken() behind work()", x.isBroken(), true);
    }

    /** A clue that is dropped from the end of the row must not work on, with no rule and in no breakdown. */
    private static void droppedClues() {
        String[] last = {"s0:0", "h0:1;h0:0", "h2:6", "i0;n0", "i0;i1"};
        for (String works : last) {
            AlibiDeals x = Checks.with("l0:0;l0:3;l0:6");
            Checks.works(x, works);
            Checks.due("36: isBroken() with " + works, x.isBroken(), !works.equals("h2:6"));
            while (x.clues() > 3) {
                x.dropClue(x.clues() - 1);
            }
            Sheets.dueSheet(x, "three, " + works + " is dropped", "123 * * 123 * * 123 * *");
        }
    }

    private static void refusals() {
        for (String works : new String[] {"", "i0;n0"}) {
            AlibiDeals x = Checks.with(works);
            for (int no : new int[] {-1, 9, Integer.MIN_VALUE, Integer.MAX_VALUE}) {
                Checks.dueThrows(x, "37: mayBeByRules(" + no + ", 0)", Checks.INDEX, () -> x.mayBeByRules(no, 0));
                Checks.dueThrows(x, "38: placeByRules(" + no + ")", Checks.INDEX, () -> x.placeByRules(no));
            }
            for (int no : new int[] {-1, 4, Integer.MIN_VALUE, Integer.MAX_VALUE}) {
                Checks.dueThrows(x, "37: mayBeByRules(0, " + no + ")", Checks.INDEX, () -> x.mayBeByRules(0, no));
            }
        }
    }
}

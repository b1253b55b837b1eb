/** Promises 22 to 29: looks at the master's deal and at clues. */
public final class LooksTest {
    public static void main(String[] args) {
        promises22And23();
        promises24To27();
        promises25To28Refusals();
        promises28And29();
        promise28EveryDeal();
        Checks.end();
    }

    private static void promises22And23() {
        AlibiDeals x = new AlibiDeals();
        for (int no : new int[] {-1, 9, Integer.MIN_VALUE, Integer.MAX_VALUE}) {
            Checks.dueThrows(x, "22: truePlace(" + no + ")", Checks.INDEX, () -> x.truePlace(no));
        }
        x.exchange(2, 7);
        Checks.due("22: truePlace(2)", x.truePlace(2), 2);
        Checks.due("22: truePlace(7)", x.truePlace(7), 0);
        Checks.due("22: truePlace(8)", x.truePlace(8), 2);
        Checks.due("22: truePlace(0)", x.truePlace(0), 3);
        for (int triple = 0; triple < 27; triple++) {
            AlibiDeals y = new AlibiDeals();
            y.exchange(0, triple / 9);
            y.exchange(3, 3 + triple / 3 % 3);
            y.exchange(6, 6 + triple % 3);
            Checks.due("23: trueEnvelope()", y.trueEnvelope(), triple);
            y.noteHas(0, 0);
            y.accuse(2, 4, 6);
            Checks.due("23: trueEnvelope() with clues", y.trueEnvelope(), triple);
        }
    }

    private static void promises24To27() {
        AlibiDeals x = new AlibiDeals();
        Checks.works(x, "h0:1;l1:8;s2:26;p0:13;n5;i0");
        int[] players = {0, 1, 2, 0, -1, -1};
        int[] cards = {2, 256, 292, 146, 273, 73};
        Checks.due("24: clues()", x.clues(), 6);
        for (int clue = 0; clue < 6; clue++) {
            Checks.due("25: kindOf(" + clue + ")", x.kindOf(clue), clue);
            Checks.due("26: playerOf(" + clue + ")", x.playerOf(clue), players[clue]);
            Checks.due("27: cardsOf(" + clue + ")", x.cardsOf(clue), cards[clue]);
        }
        x.noteHas(2, 0);
        Checks.due("24: clues() then", x.clues(), 7);
        x.dropClue(3);
        Checks.due("24: clues() behind dropClue(3)", x.clues(), 6);
        Checks.due("25: kindOf(3)", x.kindOf(3), 4);
        Checks.due("26: playerOf(5)", x.playerOf(5), 2);
        Checks.due("27: cardsOf(5)", x.cardsOf(5), 1);
        x.dropAll();
        Checks.due("24: clues() behind dropAll()", x.clues(), 0);
        for (int i = 1; i <= 20; i++) {
            x.noteLacks(0, 0);
            Checks.due("24: clues()", x.clues(), i);
        }
        Checks.due("25: kindOf(19)", x.kindOf(19), 1);
    }

    private static void promises25To28Refusals() {
        for (int have = 0; have <= 20; have += 4) {
            AlibiDeals x = new AlibiDeals();
            for (int i = 0; i < have; i++) {
                x.noteHas(0, 0);
            }
            for (int no : new int[] {-1, have, have + 1, 20, Integer.MIN_VALUE, Integer.MAX_VALUE}) {
                Checks.dueThrows(x, "25: kindOf(" + no + ")", Checks.INDEX, () -> x.kindOf(no));
                Checks.dueThrows(x, "26: playerOf(" + no + ")", Checks.INDEX, () -> x.playerOf(no));
                Checks.dueThrows(x, "27: cardsOf(" + no + ")", Checks.INDEX, () -> x.cardsOf(no));
                Checks.dueThrows(x, "28: isTrue(" + no + ")", Checks.INDEX, () -> x.isTrue(no));
            }
        }
        AlibiDeals x = new AlibiDeals();
        x.noteHas(0, 0);
        x.dropClue(0);
        Checks.dueThrows(x, "25: kindOf(0) of a dropped one", Checks.INDEX, () -> x.kindOf(0));
    }

    private static void promises28And29() {
        AlibiDeals x = new AlibiDeals();
        Checks.due("29: untrueClues() without clues", x.untrueClues(), 0);
        Checks.works(x, "h0:1;h0:0;h1:0;l0:0;l0:1;s0:9;s0:0;s2:8;p0:0;p0:9");
        Checks.works(x, "n0;n1;i0;i1;n13;i26");
        boolean[] want = {true, false, false, true, false, true, false, true, true, false,
            false, true, true, false, true, false};
        for (int clue = 0; clue < want.length; clue++) {
            Checks.due("28: isTrue(" + clue + ")", x.isTrue(clue), want[clue]);
        }
        Checks.due("29: untrueClues()", x.untrueClues(), 8);
        x.exchange(0, 1);
        Checks.due("28: isTrue(0) behind exchange(0, 1)", x.isTrue(0), false);
        Checks.due("28: isTrue(1) behind exchange(0, 1)", x.isTrue(1), true);
        Checks.due("28: isTrue(10) behind exchange(0, 1)", x.isTrue(10), true);
        Checks.due("28: isTrue(12) behind exchange(0, 1)", x.isTrue(12), false);
        Checks.due("29: untrueClues() behind exchange(0, 1)", x.untrueClues(), 8);
        x.dropAll();
        Checks.due("29: untrueClues() behind dropAll()", x.untrueClues(), 0);
    }

    /** A triple of which two cards are in the envelope is not in the envelope. */
    private static void promise28EveryDeal() {
        for (int triple = 0; triple < 27; triple++) {
            AlibiDeals x = new AlibiDeals();
            Checks.works(x, "i" + triple + ";n" + triple);
            Checks.due("28: isTrue(0) of i" + triple, x.isTrue(0), triple == 0);
            Checks.due("28: isTrue(1) of n" + triple, x.isTrue(1), triple != 0);
            Checks.due("29: untrueClues()", x.untrueClues(), 1);
        }
    }
}

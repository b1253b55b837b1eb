import java.util.function.Function;

/** Bounds of clues: none and 20, the numbers that move when one is dropped, and just so many cards as a clue tells of. */
public final class ClueBoundsTest {
    public static void main(String[] args) {
        masterAtFirst();
        leastAndGreatestTriple();
        twentiethClue();
        nineteenAndTwentyByWorks();
        numberedAsTheyCame();
        dropMovesThoseBehind();
        dropTillNoneIsLeft();
        dropAllOfNoneOneAndTwenty();
        noClue();
        twentyTrueAndTwentyUntrue();
        hasAndLacksAtEachPlace();
        showsOneOrTwoCards();
        passesOnNone();
        notAllThreeInTheEnvelope();
        lookAtTheLowest();
        exchangeOfTheSame();
        exchangeBackAndForth();
        Checks.end();
    }

    /** 20 clues, no two of them the same: the clue i is of the player i / 9 and the card i % 9. */
    private static AlibiDeals twenty() {
        AlibiDeals x = new AlibiDeals();
        for (int i = 0; i < 20; i++) {
            x.noteLacks(i / 9, i % 9);
        }
        return x;
    }

    private static void dueClue(AlibiDeals x, String where, int clue, int kind, int player, int cards) {
        Checks.due(where + ", kindOf(" + clue + ")", x.kindOf(clue), kind);
        Checks.due(where + ", playerOf(" + clue + ")", x.playerOf(clue), player);
        Checks.due(where + ", cardsOf(" + clue + ")", x.cardsOf(clue), cards);
    }

    private static void dueOfTwenty(AlibiDeals x, String where, int clue, int was) {
        dueClue(x, where, clue, 1, was / 9, 1 << was % 9);
    }

    /** "at first the cards 0, 3 and 6 are in the envelope, the player 0 has 1 and 2, the player 1 has 4 and 5, the player 2 has 7 and 8" */
    private static void masterAtFirst() {
        AlibiDeals x = new AlibiDeals();
        int[] places = {3, 0, 0, 3, 1, 1, 3, 2, 2};
        for (int card = 0; card < 9; card++) {
            Checks.due("truePlace(" + card + ") at first", x.truePlace(card), places[card]);
        }
    }

    /** "its number is ... together (0 to 26)" */
    private static void leastAndGreatestTriple() {
        AlibiDeals x = new AlibiDeals();
        Checks.due("trueEnvelope(), the least", x.trueEnvelope(), 0);
        x.exchange(0, 2);
        x.exchange(3, 5);
        Checks.due("exchange(6, 8) to the greatest", x.exchange(6, 8), 26);
        Checks.due("accuse(2, 5, 8)", x.accuse(2, 5, 8), true);
        dueClue(x, "the greatest triple", 0, 5, -1, 4 + 32 + 256);
        x.exchange(8, 6);
        x.exchange(5, 3);
        Checks.due("exchange(2, 0) to the least", x.exchange(2, 0), 0);
        Checks.due("accuse(0, 3, 6)", x.accuse(0, 3, 6), true);
        dueClue(x, "the least triple", 1, 5, -1, 1 + 8 + 64);
    }

    private static void dueTwentieth(String call, Function<AlibiDeals, Object> take, Object want, int kind, int player, int cards) {
        AlibiDeals x = twenty();
        x.dropClue(19);
        Checks.dueSame(call + ", the 20th", take.apply(x), want);
        Checks.due(call + ", the 20th, clues()", x.clues(), 20);
        dueClue(x, call, 19, kind, player, cards);
        dueOfTwenty(x, call, 18, 18);
        Checks.dueThrows(x, call + ", the 21st", Checks.STATE, () -> take.apply(x));
        Checks.due(call + ", the 21st, clues()", x.clues(), 20);
    }

    /** "There are at most 20 clues": the 20th comes by each call there is, the 21st by none. */
    private static void twentiethClue() {
        dueTwentieth("noteHas(2, 8)", x -> x.noteHas(2, 8), 20, 0, 2, 256);
        dueTwentieth("noteLacks(2, 8)", x -> x.noteLacks(2, 8), 20, 1, 2, 256);
        dueTwentieth("noteShows(2, 2, 5, 8)", x -> x.noteShows(2, 2, 5, 8), 20, 2, 2, 292);
        dueTwentieth("ask(0, 1, 3, 6)", x -> x.ask(0, 1, 3, 6), true, 2, 0, 2 + 8 + 64);
        dueTwentieth("ask(0, 0, 5, 8)", x -> x.ask(0, 0, 5, 8), false, 3, 0, 1 + 32 + 256);
        dueTwentieth("look(2, 0, 3, 8)", x -> x.look(2, 0, 3, 8), 8, 0, 2, 256);
        dueTwentieth("look(2, 2, 5, 6)", x -> x.look(2, 2, 5, 6), -1, 3, 2, 4 + 32 + 64);
        dueTwentieth("accuse(0, 3, 6)", x -> x.accuse(0, 3, 6), true, 5, -1, 73);
        dueTwentieth("accuse(2, 5, 8)", x -> x.accuse(2, 5, 8), false, 4, -1, 292);
    }

    /** The same by works as a text: each part that brings a clue, with 18 clues, with 19 and with 20. */
    private static void nineteenAndTwentyByWorks() {
        String[] parts = {"h2:8", "l2:8", "s2:26", "p2:26", "n26", "i26", "a0:9", "a0:8", "v2:2", "v2:24", "!0", "!26"};
        for (String part : parts) {
            for (int have = 18; have <= 20; have++) {
                AlibiDeals x = twenty();
                while (x.clues() > have) {
                    x.dropClue(0);
                }
                String call = "work() of " + part + " with " + have;
                Checks.due(call, Checks.works(x, part), have < 20 ? 1 : 0);
                Checks.due(call + ", clues()", x.clues(), have < 20 ? have + 1 : 20);
                Checks.due(call + ", hasStopped()", x.hasStopped(), have == 20);
                if (have == 20) {
                    Checks.due(call + ", whyStopped()", x.whyStopped(), 1);
                }
            }
        }
    }

    /** "numbered from 0 in the order in which they came" */
    private static void numberedAsTheyCame() {
        AlibiDeals x = twenty();
        for (int clue = 0; clue < 20; clue++) {
            dueOfTwenty(x, "20 clues", clue, clue);
        }
    }

    /** "when one is dropped, those behind it have numbers that are less by 1" */
    private static void dropMovesThoseBehind() {
        for (int dropped = 0; dropped < 20; dropped++) {
            AlibiDeals x = twenty();
            int no = dropped;
            String call = "dropClue(" + dropped + ") of 20";
            Checks.due(call, x.dropClue(dropped), 19);
            for (int clue = 0; clue < 19; clue++) {
                dueOfTwenty(x, call, clue, clue < dropped ? clue : clue + 1);
            }
            Checks.dueThrows(x, call + ", then dropClue(19)", Checks.INDEX, () -> x.dropClue(19));
            Checks.due(call + ", then noteHas(0, 1)", x.noteHas(0, 1), 20);
            dueClue(x, call + ", the new one", 19, 0, 0, 2);
            x.undo();
            x.undo();
            dueOfTwenty(x, call + ", undone", no, no);
            dueOfTwenty(x, call + ", undone", 19, 19);
        }
        AlibiDeals y = twenty();
        Checks.due("work() of x0;x17;x0", Checks.works(y, "x0;x17;x0"), 3);
        dueOfTwenty(y, "x0;x17;x0", 0, 2);
        dueOfTwenty(y, "x0;x17;x0", 15, 17);
        dueOfTwenty(y, "x0;x17;x0", 16, 19);
        Checks.due("clues() behind x0;x17;x0", y.clues(), 17);
    }

    /** dropClue: "Returns how many clues are left", down to none, and then there is no such clue. */
    private static void dropTillNoneIsLeft() {
        AlibiDeals x = twenty();
        for (int left = 19; left >= 0; left--) {
            Checks.due("dropClue(0)", x.dropClue(0), left);
            Checks.due("clues() behind dropClue(0)", x.clues(), left);
            if (left > 0) {
                dueOfTwenty(x, "dropClue(0), " + left + " left", 0, 20 - left);
                dueOfTwenty(x, "dropClue(0), " + left + " left", left - 1, 19);
            }
        }
        Checks.dueThrows(x, "dropClue(0) with none", Checks.INDEX, () -> x.dropClue(0));
        AlibiDeals y = twenty();
        for (int left = 19; left >= 0; left--) {
            Checks.due("dropClue of the last", y.dropClue(left), left);
        }
        Checks.due("deals() when all are dropped", y.deals(), 2430);
    }

    /** dropAll: "Returns how many there were" */
    private static void dropAllOfNoneOneAndTwenty() {
        AlibiDeals x = new AlibiDeals();
        Checks.due("dropAll() of none", x.dropAll(), 0);
        Checks.due("savedStates() behind dropAll() of none", x.savedStates(), 1);
        x.noteHas(0, 0);
        Checks.due("dropAll() of one", x.dropAll(), 1);
        AlibiDeals y = twenty();
        Checks.due("dropAll() of 20", y.dropAll(), 20);
        Checks.due("clues() behind dropAll()", y.clues(), 0);
        Checks.due("noteHas(0, 1) behind dropAll()", y.noteHas(0, 1), 1);
        dueClue(y, "behind dropAll()", 0, 0, 0, 2);
        y.undo();
        y.undo();
        for (int clue = 0; clue < 20; clue++) {
            dueOfTwenty(y, "dropAll() undone", clue, clue);
        }
    }

    /** No clue: nothing is untrue, nothing idle, no number is one of a clue. */
    private static void noClue() {
        AlibiDeals x = new AlibiDeals();
        Checks.due("clues() of none", x.clues(), 0);
        Checks.due("untrueClues() of none", x.untrueClues(), 0);
        Checks.due("idleClues() of none", x.idleClues(), 0);
        Checks.due("crossedOff() of none", x.crossedOff(), 0);
        Checks.due("isBroken() of none", x.isBroken(), false);
        Checks.dueThrows(x, "kindOf(0) of none", Checks.INDEX, () -> x.kindOf(0));
        Checks.dueThrows(x, "playerOf(0) of none", Checks.INDEX, () -> x.playerOf(0));
        Checks.dueThrows(x, "cardsOf(0) of none", Checks.INDEX, () -> x.cardsOf(0));
        Checks.dueThrows(x, "isTrue(0) of none", Checks.INDEX, () -> x.isTrue(0));
        Checks.dueThrows(x, "dealsWithout(0) of none", Checks.INDEX, () -> x.dealsWithout(0));
    }

    private static void dueUntrue(AlibiDeals x, String where, int want) {
        int found = 0;
        for (int clue = 0; clue < x.clues(); clue++) {
            found += x.isTrue(clue) ? 0 : 1;
        }
        Checks.due(where + ", isTrue", found, want);
        Checks.due(where + ", untrueClues()", x.untrueClues(), want);
    }

    /** "a clue with which it does not agree is untrue": none of 20, all 20, and all but one. */
    private static void twentyTrueAndTwentyUntrue() {
        AlibiDeals x = new AlibiDeals();
        for (int i = 0; i < 20; i++) {
            x.noteHas(2, 8);
        }
        dueUntrue(x, "20 times h2:8", 0);
        x.exchange(8, 1);
        dueUntrue(x, "20 times h2:8 behind exchange(8, 1)", 20);
        x.dropClue(19);
        x.noteHas(0, 8);
        dueUntrue(x, "19 times h2:8, and h0:8", 19);
        x.exchange(1, 8);
        dueUntrue(x, "19 times h2:8, and h0:8, behind exchange(1, 8)", 1);
        Checks.due("isTrue(19)", x.isTrue(19), false);
    }

    /** A master's deal with the card at this place. At first the cards 0, 3 and 6 are in the envelope. */
    private static AlibiDeals withCardAt(int card, int place) {
        AlibiDeals x = new AlibiDeals();
        if (x.truePlace(card) == 3) {
            x.exchange(card, card + 1);
        }
        for (int other = 0; other < 9; other++) {
            boolean fits = x.truePlace(other) == place && (place != 3 || other / 3 == card / 3);
            if (fits && x.truePlace(card) != place) {
                x.exchange(card, other);
            }
        }
        Checks.due("truePlace(" + card + "), brought to " + place, x.truePlace(card), place);
        return x;
    }

    /** Kinds 0 and 1: "a player has a card", "a player lacks a card (does not have it)": also when the envelope has it. */
    private static void hasAndLacksAtEachPlace() {
        for (int card = 0; card < 9; card++) {
            for (int place = 0; place < 4; place++) {
                AlibiDeals x = withCardAt(card, place);
                for (int player = 0; player < 3; player++) {
                    dueTrue(x, "h" + player + ":" + card, place == player);
                    dueTrue(x, "l" + player + ":" + card, place != player);
                }
            }
        }
    }

    private static void dueTrue(AlibiDeals x, String works, boolean want) {
        x.dropAll();
        Checks.works(x, works);
        Checks.due("isTrue(0) of " + works + " with " + x.trueEnvelope(), x.isTrue(0), want);
    }

    /** Kind 2: "has at least one of its cards": with none it is untrue, with one or two it is true. */
    private static void showsOneOrTwoCards() {
        AlibiDeals x = new AlibiDeals();
        x.exchange(2, 4);
        dueTrue(x, "s0:0", false);
        dueTrue(x, "s0:25", false);
        dueTrue(x, "s0:9", true);
        dueTrue(x, "s0:3", true);
        dueTrue(x, "s0:12", true);
        dueTrue(x, "s0:14", true);
        dueTrue(x, "s1:18", true);
        dueTrue(x, "s1:24", true);
        dueTrue(x, "s1:14", false);
        dueTrue(x, "s2:17", true);
        dueTrue(x, "s2:15", false);
    }

    /** Kind 3: "has none of its cards": with none it is true, with one or two it is not. */
    private static void passesOnNone() {
        AlibiDeals x = new AlibiDeals();
        x.exchange(2, 4);
        dueTrue(x, "p0:0", true);
        dueTrue(x, "p0:25", true);
        dueTrue(x, "p0:9", false);
        dueTrue(x, "p0:3", false);
        dueTrue(x, "p0:12", false);
        dueTrue(x, "p1:24", false);
        dueTrue(x, "p1:14", true);
        dueTrue(x, "p2:16", false);
    }

    /** Kind 4: "not all three are": true with none, one and two of them in the envelope; kind 5 the other way. */
    private static void notAllThreeInTheEnvelope() {
        AlibiDeals x = new AlibiDeals();
        for (int triple : new int[] {26, 13, 8, 20, 24, 1, 3, 9, 2, 6, 18}) {
            dueTrue(x, "n" + triple, true);
            dueTrue(x, "i" + triple, false);
        }
        dueTrue(x, "n0", false);
        dueTrue(x, "i0", true);
    }

    /** "one of the kind 0 for the lowest of its cards that the player has": each two of a triple. */
    private static void lookAtTheLowest() {
        AlibiDeals x = new AlibiDeals();
        x.exchange(2, 4);
        x.exchange(5, 8);
        Checks.due("look(0, 1, 4, 6), suspect and tool", x.look(0, 1, 4, 6), 1);
        Checks.due("look(1, 2, 3, 8), suspect and room", x.look(1, 2, 3, 8), 2);
        Checks.due("look(2, 0, 5, 7), tool and room", x.look(2, 0, 5, 7), 5);
        Checks.due("look(2, 0, 3, 7), the room alone", x.look(2, 0, 3, 7), 7);
        Checks.due("look(2, 0, 3, 6), none", x.look(2, 0, 3, 6), -1);
        dueClue(x, "suspect and tool", 0, 0, 0, 2);
        dueClue(x, "suspect and room", 1, 0, 1, 4);
        dueClue(x, "tool and room", 2, 0, 2, 32);
        dueClue(x, "the room alone", 3, 0, 2, 128);
        dueClue(x, "none", 4, 3, 2, 73);
        AlibiDeals y = new AlibiDeals();
        y.exchange(0, 1);
        y.exchange(6, 8);
        Checks.due("look(0, 0, 3, 6), the card 0", y.look(0, 0, 3, 6), 0);
        Checks.due("look(2, 2, 5, 6), the room 6", y.look(2, 2, 5, 6), 6);
        Checks.due("look(2, 2, 5, 8), which is in the envelope", y.look(2, 2, 5, 8), -1);
        dueClue(y, "the card 0", 0, 0, 0, 1);
        dueClue(y, "the room 6", 1, 0, 2, 64);
    }

    /** exchange: "0 to 8, perhaps the same" */
    private static void exchangeOfTheSame() {
        AlibiDeals x = new AlibiDeals();
        for (int card = 0; card < 9; card++) {
            int place = x.truePlace(card);
            Checks.due("exchange(" + card + ", " + card + ")", x.exchange(card, card), 0);
            Checks.due("truePlace(" + card + ") behind it", x.truePlace(card), place);
            Checks.due("savedStates() behind it", x.savedStates(), Math.min(card + 1, 5));
        }
        Checks.due("exchange(0, 3), two of the envelope", x.exchange(0, 3), 0);
        Checks.due("exchange(1, 2), two of one hand", x.exchange(1, 2), 0);
        masterAtFirst();
    }

    /** Two exchanges of the same cards are none, also when a card of the envelope is one of them. */
    private static void exchangeBackAndForth() {
        AlibiDeals x = new AlibiDeals();
        Checks.due("exchange(0, 2)", x.exchange(0, 2), 18);
        Checks.due("exchange(0, 2) again", x.exchange(0, 2), 0);
        Checks.due("exchange(8, 6)", x.exchange(8, 6), 2);
        Checks.due("truePlace(6)", x.truePlace(6), 2);
        Checks.due("exchange(6, 8)", x.exchange(6, 8), 0);
        Checks.due("truePlace(6) again", x.truePlace(6), 3);
        Checks.due("exchange(1, 8)", x.exchange(1, 8), 0);
        Checks.due("exchange(8, 2), in one hand", x.exchange(8, 2), 0);
        Checks.due("truePlace(8)", x.truePlace(8), 0);
        Checks.due("truePlace(1)", x.truePlace(1), 2);
    }
}

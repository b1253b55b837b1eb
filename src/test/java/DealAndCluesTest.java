/** Promises 1 to 10: a new object, the master's deal, clues that are noted and dropped, questions. */
public final class DealAndCluesTest {
    private static final int[] AT_FIRST = {3, 0, 0, 3, 1, 1, 3, 2, 2};
    private static final int[] NO_PLAYERS = {-1, 3, Integer.MIN_VALUE, Integer.MAX_VALUE};
    private static final int[] NO_CARDS = {-1, 9, Integer.MIN_VALUE, Integer.MAX_VALUE};

    public static void main(String[] args) {
        promise1();
        promise2();
        promise2Pairs();
        promise2Refusals();
        promise3();
        promise4();
        promise5();
        promises3To5Refusals();
        promise6();
        promise7();
        promise8();
        promise9();
        promise10();
        promises8To10Refusals();
        Checks.end();
    }

    private static void dueClue(AlibiDeals x, int clue, int kind, int player, int cards) {
        Checks.due("kindOf(" + clue + ")", x.kindOf(clue), kind);
        Checks.due("playerOf(" + clue + ")", x.playerOf(clue), player);
        Checks.due("cardsOf(" + clue + ")", x.cardsOf(clue), cards);
    }

    private static AlibiDeals full() {
        AlibiDeals x = new AlibiDeals();
        for (int i = 1; i <= 20; i++) {
            Checks.due("noteLacks(0, 0), clue " + i, x.noteLacks(0, 0), i);
        }
        return x;
    }

    private static void promise1() {
        AlibiDeals x = new AlibiDeals();
        for (int card = 0; card < 9; card++) {
            Checks.due("1: truePlace(" + card + ")", x.truePlace(card), AT_FIRST[card]);
        }
        Checks.due("1: trueEnvelope()", x.trueEnvelope(), 0);
        Checks.due("1: clues()", x.clues(), 0);
        Checks.due("1: savedStates()", x.savedStates(), 0);
        Checks.due("1: firstError()", x.firstError(), 0);
        Checks.due("1: hasStopped()", x.hasStopped(), false);
        Checks.dueThrows(x, "1: restore()", Checks.STATE, x::restore);
        Checks.dueThrows(x, "1: undo()", Checks.STATE, x::undo);
        Checks.due("1: clearBuffer()", x.clearBuffer(), 0);
        AlibiDeals other = new AlibiDeals();
        x.noteHas(0, 0);
        x.exchange(0, 1);
        x.append('h');
        x.keep();
        Checks.due("1: digest() of another one", other.digest(), new AlibiDeals().digest());
        Checks.dueThrows(other, "1: restore() of another one", Checks.STATE, other::restore);
    }

    private static void promise2() {
        AlibiDeals x = new AlibiDeals();
        Checks.due("2: exchange(0, 1)", x.exchange(0, 1), 9);
        Checks.due("2: truePlace(0)", x.truePlace(0), 0);
        Checks.due("2: truePlace(1)", x.truePlace(1), 3);
        Checks.due("2: savedStates()", x.savedStates(), 1);
        Checks.due("2: exchange(7, 4)", x.exchange(7, 4), 9);
        Checks.due("2: truePlace(7)", x.truePlace(7), 1);
        Checks.due("2: truePlace(4)", x.truePlace(4), 2);
        Checks.due("2: exchange(3, 3)", x.exchange(3, 3), 9);
        Checks.due("2: savedStates(), nothing changed", x.savedStates(), 3);
        Checks.due("2: exchange(3, 6)", x.exchange(3, 6), 9);
        Checks.due("2: truePlace(3)", x.truePlace(3), 3);
        Checks.due("2: exchange(5, 3)", x.exchange(5, 3), 15);
        Checks.due("2: exchange(8, 6)", x.exchange(8, 6), 17);
        Checks.due("2: exchange(1, 2)", x.exchange(1, 2), 26);
        Checks.due("2: trueEnvelope()", x.trueEnvelope(), 26);
        Checks.due("2: undo()", x.undo(), 4);
        Checks.due("2: trueEnvelope() behind undo()", x.trueEnvelope(), 17);
    }

    private static void promise2Pairs() {
        for (int card = 0; card < 9; card++) {
            for (int other = 0; other < 9; other++) {
                AlibiDeals x = new AlibiDeals();
                int a = card;
                int b = other;
                String call = "2: exchange(" + card + ", " + other + ")";
                boolean inside = AT_FIRST[a] == 3;
                if (inside != (AT_FIRST[b] == 3) && a / 3 != b / 3) {
                    Checks.dueThrows(x, call, Checks.STATE, () -> x.exchange(a, b));
                    continue;
                }
                int in = inside ? b : a;
                int want = inside == (AT_FIRST[b] == 3) ? 0 : in % 3 * (a / 3 == 0 ? 9 : a / 3 == 1 ? 3 : 1);
                Checks.due(call, x.exchange(a, b), want);
                Checks.due(call + ", savedStates()", x.savedStates(), 1);
                for (int i = 0; i < 9; i++) {
                    int from = i == a ? b : i == b ? a : i;
                    Checks.due(call + ", truePlace(" + i + ")", x.truePlace(i), AT_FIRST[from]);
                }
            }
        }
    }

    private static void promise2Refusals() {
        AlibiDeals x = new AlibiDeals();
        for (int no : NO_CARDS) {
            Checks.dueThrows(x, "2: exchange(" + no + ", 0)", Checks.INDEX, () -> x.exchange(no, 0));
            Checks.dueThrows(x, "2: exchange(0, " + no + ")", Checks.INDEX, () -> x.exchange(0, no));
            Checks.dueThrows(x, "2: exchange(" + no + ", " + no + ")", Checks.INDEX, () -> x.exchange(no, no));
        }
        Checks.due("2: savedStates()", x.savedStates(), 0);
    }

    private static void promise3() {
        for (int player = 0; player < 3; player++) {
            for (int card = 0; card < 9; card++) {
                AlibiDeals x = new AlibiDeals();
                Checks.due("3: noteHas(" + player + ", " + card + ")", x.noteHas(player, card), 1);
                dueClue(x, 0, 0, player, 1 << card);
                Checks.due("3: isTrue(0)", x.isTrue(0), AT_FIRST[card] == player);
                Checks.due("3: noteHas again", x.noteHas(player, card), 2);
                Checks.due("3: savedStates()", x.savedStates(), 2);
                x.undo();
                Checks.due("3: clues() behind undo()", x.clues(), 1);
            }
        }
    }

    private static void promise4() {
        for (int player = 0; player < 3; player++) {
            for (int card = 0; card < 9; card++) {
                AlibiDeals x = new AlibiDeals();
                x.noteHas(0, 0);
                Checks.due("4: noteLacks(" + player + ", " + card + ")", x.noteLacks(player, card), 2);
                dueClue(x, 1, 1, player, 1 << card);
                Checks.due("4: isTrue(1)", x.isTrue(1), AT_FIRST[card] != player);
                Checks.due("4: savedStates()", x.savedStates(), 2);
                x.undo();
                Checks.due("4: clues() behind undo()", x.clues(), 1);
            }
        }
    }

    private static void promise5() {
        for (int player = 0; player < 3; player++) {
            for (int triple = 0; triple < 27; triple++) {
                AlibiDeals x = new AlibiDeals();
                int suspect = triple / 9;
                int tool = 3 + triple / 3 % 3;
                int room = 6 + triple % 3;
                Checks.due("5: noteShows of " + triple, x.noteShows(player, suspect, tool, room), 1);
                dueClue(x, 0, 2, player, 1 << suspect | 1 << tool | 1 << room);
                boolean has = AT_FIRST[suspect] == player || AT_FIRST[tool] == player || AT_FIRST[room] == player;
                Checks.due("5: isTrue(0) of " + triple, x.isTrue(0), has);
                Checks.due("5: savedStates()", x.savedStates(), 1);
                x.undo();
                Checks.due("5: clues() behind undo()", x.clues(), 0);
            }
        }
    }

    private static void promises3To5Refusals() {
        refuseNotes(new AlibiDeals());
        refuseNotes(full());
        AlibiDeals x = full();
        Checks.dueThrows(x, "3: noteHas(0, 0) with 20 clues", Checks.STATE, () -> x.noteHas(0, 0));
        Checks.dueThrows(x, "4: noteLacks(0, 0) with 20 clues", Checks.STATE, () -> x.noteLacks(0, 0));
        Checks.dueThrows(x, "5: noteShows(0, 0, 3, 6) with 20 clues", Checks.STATE, () -> x.noteShows(0, 0, 3, 6));
        x.dropClue(7);
        Checks.due("3: noteHas(2, 8), the 20th", x.noteHas(2, 8), 20);
        x.dropClue(7);
        Checks.due("4: noteLacks(2, 8), the 20th", x.noteLacks(2, 8), 20);
        x.dropClue(7);
        Checks.due("5: noteShows(2, 2, 5, 8), the 20th", x.noteShows(2, 2, 5, 8), 20);
        dueClue(x, 19, 2, 2, 4 + 32 + 256);
    }

    private static void refuseNotes(AlibiDeals x) {
        for (int no : NO_PLAYERS) {
            Checks.dueThrows(x, "3: noteHas(" + no + ", 0)", Checks.INDEX, () -> x.noteHas(no, 0));
            Checks.dueThrows(x, "4: noteLacks(" + no + ", 0)", Checks.INDEX, () -> x.noteLacks(no, 0));
            Checks.dueThrows(x, "5: noteShows(" + no + ", 0, 3, 6)", Checks.INDEX, () -> x.noteShows(no, 0, 3, 6));
        }
        for (int no : NO_CARDS) {
            Checks.dueThrows(x, "3: noteHas(0, " + no + ")", Checks.INDEX, () -> x.noteHas(0, no));
            Checks.dueThrows(x, "4: noteLacks(0, " + no + ")", Checks.INDEX, () -> x.noteLacks(0, no));
            Checks.dueThrows(x, "5: noteShows(0, " + no + ", 3, 6)", Checks.INDEX, () -> x.noteShows(0, no, 3, 6));
            Checks.dueThrows(x, "5: noteShows(0, 0, " + no + ", 6)", Checks.INDEX, () -> x.noteShows(0, 0, no, 6));
            Checks.dueThrows(x, "5: noteShows(0, 0, 3, " + no + ")", Checks.INDEX, () -> x.noteShows(0, 0, 3, no));
        }
        Checks.dueThrows(x, "5: noteShows(0, 3, 3, 6)", Checks.INDEX, () -> x.noteShows(0, 3, 3, 6));
        Checks.dueThrows(x, "5: noteShows(0, 0, 2, 6)", Checks.INDEX, () -> x.noteShows(0, 0, 2, 6));
        Checks.dueThrows(x, "5: noteShows(0, 0, 6, 6)", Checks.INDEX, () -> x.noteShows(0, 0, 6, 6));
        Checks.dueThrows(x, "5: noteShows(0, 0, 3, 5)", Checks.INDEX, () -> x.noteShows(0, 0, 3, 5));
    }

    private static void promise6() {
        AlibiDeals x = new AlibiDeals();
        Checks.dueThrows(x, "6: dropClue(0) without clues", Checks.INDEX, () -> x.dropClue(0));
        x.noteHas(0, 1);
        x.noteLacks(1, 3);
        x.noteShows(2, 0, 4, 8);
        x.accuse(2, 5, 8);
        Checks.dueThrows(x, "6: dropClue(-1)", Checks.INDEX, () -> x.dropClue(-1));
        Checks.dueThrows(x, "6: dropClue(4)", Checks.INDEX, () -> x.dropClue(4));
        Checks.dueThrows(x, "6: dropClue(20)", Checks.INDEX, () -> x.dropClue(20));
        Checks.dueThrows(x, "6: dropClue(MAX)", Checks.INDEX, () -> x.dropClue(Integer.MAX_VALUE));
        Checks.due("6: dropClue(1)", x.dropClue(1), 3);
        dueClue(x, 0, 0, 0, 2);
        dueClue(x, 1, 2, 2, 1 + 16 + 256);
        dueClue(x, 2, 4, -1, 4 + 32 + 256);
        Checks.due("6: savedStates()", x.savedStates(), 5);
        Checks.due("6: dropClue(2)", x.dropClue(2), 2);
        Checks.due("6: dropClue(0)", x.dropClue(0), 1);
        dueClue(x, 0, 2, 2, 1 + 16 + 256);
        Checks.due("6: dropClue(0), the last", x.dropClue(0), 0);
        Checks.due("6: deals()", x.deals(), 2430);
        x.undo();
        x.undo();
        dueClue(x, 0, 0, 0, 2);
        AlibiDeals y = full();
        Checks.due("6: dropClue(19)", y.dropClue(19), 19);
    }

    private static void promise7() {
        AlibiDeals x = new AlibiDeals();
        Checks.due("7: dropAll() without clues", x.dropAll(), 0);
        Checks.due("7: savedStates()", x.savedStates(), 1);
        x.noteHas(0, 1);
        x.exchange(1, 2);
        x.noteHas(0, 1);
        Checks.due("7: dropAll()", x.dropAll(), 2);
        Checks.due("7: clues()", x.clues(), 0);
        Checks.due("7: deals()", x.deals(), 2430);
        Checks.due("7: savedStates() then", x.savedStates(), 5);
        Checks.due("7: undo()", x.undo(), 4);
        Checks.due("7: clues() behind undo()", x.clues(), 2);
        Checks.due("7: dropAll() of 20", full().dropAll(), 20);
    }

    private static void promise8() {
        for (int player = 0; player < 3; player++) {
            for (int triple = 0; triple < 27; triple++) {
                AlibiDeals x = new AlibiDeals();
                int[] cards = {triple / 9, 3 + triple / 3 % 3, 6 + triple % 3};
                boolean shows = cards[player] != 3 * player;
                String call = "8: ask(" + player + ") for " + triple;
                Checks.due(call, x.ask(player, cards[0], cards[1], cards[2]), shows);
                Checks.due(call + ", clues()", x.clues(), 1);
                dueClue(x, 0, shows ? 2 : 3, player, 1 << cards[0] | 1 << cards[1] | 1 << cards[2]);
                Checks.due(call + ", isTrue(0)", x.isTrue(0), true);
                Checks.due(call + ", savedStates()", x.savedStates(), 1);
                x.undo();
                Checks.due(call + ", clues() behind undo()", x.clues(), 0);
            }
        }
        AlibiDeals x = new AlibiDeals();
        x.exchange(0, 1);
        Checks.due("8: ask(0, 0, 3, 6) behind exchange(0, 1)", x.ask(0, 0, 3, 6), true);
        Checks.due("8: ask(0, 1, 3, 6) behind exchange(0, 1)", x.ask(0, 1, 3, 6), false);
    }

    private static void promise9() {
        for (int player = 0; player < 3; player++) {
            for (int triple = 0; triple < 27; triple++) {
                AlibiDeals x = new AlibiDeals();
                int[] cards = {triple / 9, 3 + triple / 3 % 3, 6 + triple % 3};
                boolean shows = cards[player] != 3 * player;
                String call = "9: look(" + player + ") for " + triple;
                Checks.due(call, x.look(player, cards[0], cards[1], cards[2]), shows ? cards[player] : -1);
                dueClue(x, 0, shows ? 0 : 3, player,
                        shows ? 1 << cards[player] : 1 << cards[0] | 1 << cards[1] | 1 << cards[2]);
                Checks.due(call + ", savedStates()", x.savedStates(), 1);
                x.undo();
                Checks.due(call + ", clues() behind undo()", x.clues(), 0);
            }
        }
        AlibiDeals x = new AlibiDeals();
        x.exchange(2, 4);
        x.exchange(5, 8);
        Checks.due("9: look(0, 1, 4, 6), two of them", x.look(0, 1, 4, 6), 1);
        dueClue(x, 0, 0, 0, 2);
        Checks.due("9: look(0, 2, 4, 6)", x.look(0, 2, 4, 6), 4);
        dueClue(x, 1, 0, 0, 16);
        Checks.due("9: look(1, 2, 3, 8), two of them", x.look(1, 2, 3, 8), 2);
        Checks.due("9: look(2, 0, 5, 7), two of them", x.look(2, 0, 5, 7), 5);
        dueClue(x, 3, 0, 2, 32);
    }

    private static void promise10() {
        for (int triple = 0; triple < 27; triple++) {
            AlibiDeals x = new AlibiDeals();
            int[] cards = {triple / 9, 3 + triple / 3 % 3, 6 + triple % 3};
            String call = "10: accuse of " + triple;
            Checks.due(call, x.accuse(cards[0], cards[1], cards[2]), triple == 0);
            dueClue(x, 0, triple == 0 ? 5 : 4, -1, 1 << cards[0] | 1 << cards[1] | 1 << cards[2]);
            Checks.due(call + ", isTrue(0)", x.isTrue(0), true);
            Checks.due(call + ", savedStates()", x.savedStates(), 1);
            x.undo();
            Checks.due(call + ", clues() behind undo()", x.clues(), 0);
        }
        AlibiDeals x = new AlibiDeals();
        x.exchange(6, 8);
        Checks.due("10: accuse(0, 3, 8) behind exchange(6, 8)", x.accuse(0, 3, 8), true);
        Checks.due("10: accuse(0, 3, 6) behind exchange(6, 8)", x.accuse(0, 3, 6), false);
    }

    private static void promises8To10Refusals() {
        refuseQuestions(new AlibiDeals());
        refuseQuestions(full());
        AlibiDeals x = full();
        Checks.dueThrows(x, "8: ask(0, 0, 3, 6) with 20 clues", Checks.STATE, () -> x.ask(0, 0, 3, 6));
        Checks.dueThrows(x, "8: ask(0, 1, 3, 6) with 20 clues", Checks.STATE, () -> x.ask(0, 1, 3, 6));
        Checks.dueThrows(x, "9: look(0, 0, 3, 6) with 20 clues", Checks.STATE, () -> x.look(0, 0, 3, 6));
        Checks.dueThrows(x, "9: look(0, 1, 3, 6) with 20 clues", Checks.STATE, () -> x.look(0, 1, 3, 6));
        Checks.dueThrows(x, "10: accuse(0, 3, 6) with 20 clues", Checks.STATE, () -> x.accuse(0, 3, 6));
        Checks.dueThrows(x, "10: accuse(1, 3, 6) with 20 clues", Checks.STATE, () -> x.accuse(1, 3, 6));
        x.dropClue(0);
        x.ask(0, 0, 3, 6);
        Checks.due("8: the 20th clue, clues()", x.clues(), 20);
        x.dropClue(0);
        x.look(0, 0, 3, 6);
        Checks.due("9: the 20th clue, clues()", x.clues(), 20);
        x.dropClue(0);
        x.accuse(0, 3, 6);
        Checks.due("10: the 20th clue, clues()", x.clues(), 20);
    }

    private static void refuseQuestions(AlibiDeals x) {
        for (int no : NO_PLAYERS) {
            Checks.dueThrows(x, "8: ask(" + no + ", 0, 3, 6)", Checks.INDEX, () -> x.ask(no, 0, 3, 6));
            Checks.dueThrows(x, "9: look(" + no + ", 0, 3, 6)", Checks.INDEX, () -> x.look(no, 0, 3, 6));
        }
        int[][] no = {{-1, 3, 6}, {3, 3, 6}, {0, 2, 6}, {0, 6, 6}, {0, 3, 5}, {0, 3, 9}, {0, -1, 6}, {0, 3, -1},
            {9, 3, 6}, {Integer.MAX_VALUE, 3, 6}, {0, Integer.MIN_VALUE, 6}, {0, 3, Integer.MAX_VALUE}};
        for (int[] cards : no) {
            String of = cards[0] + ", " + cards[1] + ", " + cards[2] + ")";
            Checks.dueThrows(x, "8: ask(0, " + of, Checks.INDEX, () -> x.ask(0, cards[0], cards[1], cards[2]));
            Checks.dueThrows(x, "9: look(0, " + of, Checks.INDEX, () -> x.look(0, cards[0], cards[1], cards[2]));
            Checks.dueThrows(x, "10: accuse(" + of, Checks.INDEX, () -> x.accuse(cards[0], cards[1], cards[2]));
        }
    }
}

/** What README.md tells: its example call by call, its table of the parts of a text, the numbers of triples. */
public final class ReadmeTest {
    public static void main(String[] args) {
        example();
        partsOfATextAndCalls();
        numbersOfTriples();
        atMostFiveChanges();
        Checks.end();
    }

    private static void example() {
        AlibiDeals parlour = new AlibiDeals();
        Checks.due("ask(0, 1, 3, 6)", parlour.ask(0, 1, 3, 6), true);
        Checks.due("noteLacks(2, 6)", parlour.noteLacks(2, 6), 2);
        Checks.due("deals()", parlour.deals(), 1140);
        Checks.due("bestQuestion(1)", parlour.bestQuestion(1), 10);
        for (char code : "a1:4;!9".toCharArray()) {
            parlour.append(code);
        }
        Checks.due("work()", parlour.work(), 2);
        Checks.due("clues() behind work()", parlour.clues(), 4);
        Checks.due("kindOf(2), that of a1:4", parlour.kindOf(2), 2);
        Checks.due("kindOf(3), that of !9", parlour.kindOf(3), 4);
        Checks.due("undo()", parlour.undo(), 2);
        Checks.due("clues() behind undo()", parlour.clues(), 2);
        Checks.due("deals() behind undo()", parlour.deals(), 1140);
    }

    private static void dueSame(String works, AlibiDeals byCall) {
        Checks.due("digest() of " + works + " and of the call", Checks.with(works).digest(), byCall.digest());
    }

    /** A part with a call of its own does what that call does. */
    private static void partsOfATextAndCalls() {
        for (int player = 0; player < 3; player++) {
            for (int card = 0; card < 9; card++) {
                AlibiDeals has = new AlibiDeals();
                has.noteHas(player, card);
                dueSame("h" + player + ":" + card, has);
                AlibiDeals lacks = new AlibiDeals();
                lacks.noteLacks(player, card);
                dueSame("l" + player + ":" + card, lacks);
            }
            for (int triple = 0; triple < 27; triple++) {
                questions(player, triple / 9, 3 + triple / 3 % 3, 6 + triple % 3, triple);
            }
        }
        AlibiDeals dropped = Checks.with("n0;n1;n2");
        dropped.dropClue(1);
        AlibiDeals byText = Checks.with("n0;n1;n2");
        Checks.due("work() of x1", Checks.works(byText, "x1"), 1);
        Checks.due("digest() of x1 and of dropClue(1)", byText.digest(), dropped.digest());
    }

    private static void questions(int player, int suspect, int tool, int room, int triple) {
        AlibiDeals shows = new AlibiDeals();
        shows.noteShows(player, suspect, tool, room);
        dueSame("s" + player + ":" + triple, shows);
        AlibiDeals asked = new AlibiDeals();
        boolean shown = asked.ask(player, suspect, tool, room);
        dueSame("a" + player + ":" + triple, asked);
        dueSame((shown ? "s" : "p") + player + ":" + triple, asked);
        AlibiDeals looked = new AlibiDeals();
        int seen = looked.look(player, suspect, tool, room);
        dueSame("v" + player + ":" + triple, looked);
        dueSame(seen >= 0 ? "h" + player + ":" + seen : "p" + player + ":" + triple, looked);
        AlibiDeals accused = new AlibiDeals();
        boolean right = accused.accuse(suspect, tool, room);
        dueSame("!" + triple, accused);
        dueSame((right ? "i" : "n") + triple, accused);
    }

    /** "9 * suspect + 3 * (tool - 3) + (room - 6)" */
    private static void numbersOfTriples() {
        for (int suspect = 0; suspect < 3; suspect++) {
            for (int tool = 3; tool < 6; tool++) {
                for (int room = 6; room < 9; room++) {
                    int triple = 9 * suspect + 3 * (tool - 3) + (room - 6);
                    AlibiDeals x = Checks.with("i" + triple);
                    Checks.due("cardsOf(0) of i" + triple, x.cardsOf(0), 1 << suspect | 1 << tool | 1 << room);
                    Checks.due("bestAccusation() of i" + triple, x.bestAccusation(), triple);
                }
            }
        }
    }

    /** "take back changes, at most five" */
    private static void atMostFiveChanges() {
        AlibiDeals x = new AlibiDeals();
        for (int i = 0; i < 7; i++) {
            x.noteLacks(0, i);
        }
        for (int i = 0; i < 5; i++) {
            x.undo();
        }
        Checks.due("clues() when five of seven are taken back", x.clues(), 2);
        Checks.dueThrows(x, "undo() of the sixth", Checks.STATE, x::undo);
    }
}

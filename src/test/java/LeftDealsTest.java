/** Promises 30 to 35: the deals that are left, and places that are certain. */
public final class LeftDealsTest {
    public static void main(String[] args) {
        promises30And31();
        promise30Changes();
        promise32();
        promise32Sums();
        promise33();
        promise34();
        promise35();
        refusals();
        Checks.end();
    }

    private static void dueDeals(String works, int want) {
        AlibiDeals x = Checks.with(works);
        Checks.due("30: deals() of " + works, x.deals(), want);
        Checks.due("31: dealsByHands() of " + works, x.dealsByHands(), want);
        AlibiDeals y = Checks.with(works);
        Checks.due("31: dealsByHands() first, of " + works, y.dealsByHands(), want);
    }

    private static void promises30And31() {
        AlibiDeals x = new AlibiDeals();
        Checks.due("30: deals() at first", x.deals(), 2430);
        Checks.due("31: dealsByHands() at first", x.dealsByHands(), 2430);
        for (int player = 0; player < 3; player++) {
            for (int card = 0; card < 9; card++) {
                dueDeals("h" + player + ":" + card, 540);
                dueDeals("l" + player + ":" + card, 1890);
            }
            for (int triple = 0; triple < 27; triple++) {
                dueDeals("s" + player + ":" + triple, 1404);
                dueDeals("p" + player + ":" + triple, 1026);
            }
        }
        for (int triple = 0; triple < 27; triple++) {
            dueDeals("n" + triple, 2340);
            dueDeals("i" + triple, 90);
        }
        dueDeals("h0:0;h0:1", 54);
        dueDeals("h0:0;h0:3", 72);
        dueDeals("h0:0;h1:0", 0);
        dueDeals("h0:0;h1:1;h2:2", 0);
        dueDeals("h0:0;h0:1;h0:3", 0);
        dueDeals("i0;i1", 0);
        dueDeals("i0;n0", 0);
        dueDeals("n0;n1;n2", 2160);
        dueDeals("n0;n0", 2340);
        dueDeals("i0;h0:1;h0:2;h1:4;h1:5", 1);
        dueDeals("i0;h0:1;h0:2", 6);
        dueDeals("i0;h0:1", 30);
        dueDeals("h1:3;s1:5", 198);
        dueDeals("h1:6;s1:8;s1:10", 0);
        dueDeals("s0:0;p0:0", 0);
    }

    /** What is counted once must not stand when clues change in any of the ways there are. */
    private static void promise30Changes() {
        AlibiDeals x = new AlibiDeals();
        dueBoth(x, "at first", 2430);
        x.noteHas(0, 0);
        dueBoth(x, "noteHas", 540);
        x.noteLacks(1, 0);
        dueBoth(x, "noteLacks", 540);
        x.dropClue(0);
        dueBoth(x, "dropClue", 1890);
        x.keep();
        x.dropAll();
        dueBoth(x, "dropAll", 2430);
        x.noteShows(0, 0, 3, 6);
        dueBoth(x, "noteShows", 1404);
        x.undo();
        dueBoth(x, "undo", 2430);
        x.restore();
        dueBoth(x, "restore", 1890);
        x.dropClue(0);
        x.accuse(0, 3, 6);
        dueBoth(x, "accuse", 90);
        x.dropClue(0);
        x.ask(0, 0, 3, 6);
        dueBoth(x, "ask", 1026);
        x.exchange(0, 1);
        dueBoth(x, "exchange, the clues stay", 1026);
        x.dropClue(0);
        x.look(0, 0, 3, 6);
        dueBoth(x, "look", 540);
        Checks.works(x, "x0;n0");
        dueBoth(x, "work", 2340);
    }

    private static void dueBoth(AlibiDeals x, String behind, int want) {
        Checks.due("30: deals() behind " + behind, x.deals(), want);
        Checks.due("31: dealsByHands() behind " + behind, x.dealsByHands(), want);
    }

    private static void promise32() {
        AlibiDeals x = new AlibiDeals();
        for (int card = 0; card < 9; card++) {
            for (int place = 0; place < 4; place++) {
                Checks.due("32: dealsWith at first", x.dealsWith(card, place), place == 3 ? 810 : 540);
            }
        }
        x.noteHas(0, 0);
        int[] atPlayer0 = {540, 54, 54, 72, 72, 72, 72, 72, 72};
        for (int card = 0; card < 9; card++) {
            Checks.due("32: dealsWith(" + card + ", 0) of h0:0", x.dealsWith(card, 0), atPlayer0[card]);
        }
        Checks.due("32: dealsWith(0, 1)", x.dealsWith(0, 1), 0);
        Checks.due("32: dealsWith(0, 3)", x.dealsWith(0, 3), 0);
        Checks.due("32: dealsWith(1, 3)", x.dealsWith(1, 3), 270);
        Checks.due("32: dealsWith(1, 1)", x.dealsWith(1, 1), 108);
        Checks.due("32: dealsWith(8, 3)", x.dealsWith(8, 3), 180);
        Checks.due("32: dealsWith(8, 2)", x.dealsWith(8, 2), 144);
        x.noteHas(1, 0);
        Checks.due("32: dealsWith(0, 0), none left", x.dealsWith(0, 0), 0);
        Checks.due("32: dealsWith(8, 3), none left", x.dealsWith(8, 3), 0);
    }

    private static void promise32Sums() {
        AlibiDeals x = Checks.with("s0:5;p1:22;n7;l2:4");
        int left = x.deals();
        int[] places = new int[4];
        for (int card = 0; card < 9; card++) {
            int sum = 0;
            for (int place = 0; place < 4; place++) {
                sum += x.dealsWith(card, place);
                places[place] += x.dealsWith(card, place);
            }
            Checks.due("32: the places of " + card, sum, left);
        }
        for (int place = 0; place < 4; place++) {
            Checks.due("32: the cards at " + place, places[place], left * (place == 3 ? 3 : 2));
        }
    }

    private static void promise33() {
        AlibiDeals x = new AlibiDeals();
        for (int card = 0; card < 9; card++) {
            for (int place = 0; place < 4; place++) {
                Checks.due("33: mayBe at first", x.mayBe(card, place), true);
            }
        }
        x.noteHas(1, 3);
        x.noteShows(1, 0, 4, 8);
        boolean[] atPlayer1 = {true, false, false, true, true, false, false, false, true};
        for (int card = 0; card < 9; card++) {
            Checks.due("33: mayBe(" + card + ", 1)", x.mayBe(card, 1), atPlayer1[card]);
            Checks.due("33: mayBe(" + card + ", 2)", x.mayBe(card, 2), card != 3);
            Checks.due("33: mayBe(" + card + ", 3)", x.mayBe(card, 3), card != 3);
        }
        x.noteHas(0, 3);
        for (int card = 0; card < 9; card++) {
            Checks.due("33: mayBe(" + card + ", 1), none left", x.mayBe(card, 1), false);
        }
        AlibiDeals y = Checks.with("i0;h0:1;h0:2;h1:4;h1:5");
        Checks.due("33: mayBe(8, 2), the only deal", y.mayBe(8, 2), true);
        Checks.due("33: mayBe(8, 1), the only deal", y.mayBe(8, 1), false);
    }

    private static void duePlaces(String works, int[] want) {
        AlibiDeals x = Checks.with(works);
        int certain = 0;
        for (int card = 0; card < 9; card++) {
            Checks.due("34: certainPlace(" + card + ") of " + works, x.certainPlace(card), want[card]);
            certain += want[card] >= 0 ? 1 : 0;
        }
        Checks.due("35: certainCards() of " + works, x.certainCards(), certain);
    }

    private static void promise34() {
        duePlaces("n0", new int[] {-1, -1, -1, -1, -1, -1, -1, -1, -1});
        duePlaces("i0", new int[] {3, -1, -1, 3, -1, -1, 3, -1, -1});
        duePlaces("i26", new int[] {-1, -1, 3, -1, -1, 3, -1, -1, 3});
        duePlaces("h2:4", new int[] {-1, -1, -1, -1, 2, -1, -1, -1, -1});
        duePlaces("h0:0;h1:1", new int[] {0, 1, 3, -1, -1, -1, -1, -1, -1});
        duePlaces("i0;h0:1;h0:2;h1:4;h1:5", new int[] {3, 0, 0, 3, 1, 1, 3, 2, 2});
        duePlaces("i0;h0:1;h0:2;h1:4", new int[] {3, 0, 0, 3, 1, -1, 3, -1, -1});
        duePlaces("h0:0;h1:0", new int[] {-1, -1, -1, -1, -1, -1, -1, -1, -1});
        duePlaces("l0:0;l1:0;l2:0", new int[] {3, -1, -1, -1, -1, -1, -1, -1, -1});
    }

    private static void promise35() {
        AlibiDeals x = new AlibiDeals();
        Checks.due("35: certainCards() at first", x.certainCards(), 0);
        x.noteHas(0, 1);
        Checks.due("35: certainCards() of h0:1", x.certainCards(), 1);
        x.undo();
        Checks.due("35: certainCards() behind undo()", x.certainCards(), 0);
        Checks.due("35: certainCards() of all", Checks.with("i0;h0:1;h0:2;h1:4;h1:5").certainCards(), 9);
    }

    private static void refusals() {
        for (String works : new String[] {"n0", "h0:0;h1:0"}) {
            AlibiDeals x = Checks.with(works);
            for (int no : new int[] {-1, 9, Integer.MIN_VALUE, Integer.MAX_VALUE}) {
                Checks.dueThrows(x, "32: dealsWith(" + no + ", 0)", Checks.INDEX, () -> x.dealsWith(no, 0));
                Checks.dueThrows(x, "33: mayBe(" + no + ", 0)", Checks.INDEX, () -> x.mayBe(no, 0));
                Checks.dueThrows(x, "34: certainPlace(" + no + ")", Checks.INDEX, () -> x.certainPlace(no));
            }
            for (int no : new int[] {-1, 4, Integer.MIN_VALUE, Integer.MAX_VALUE}) {
                Checks.dueThrows(x, "32: dealsWith(8, " + no + ")", Checks.INDEX, () -> x.dealsWith(8, no));
                Checks.dueThrows(x, "33: mayBe(0, " + no + ")", Checks.INDEX, () -> x.mayBe(0, no));
            }
        }
    }
}

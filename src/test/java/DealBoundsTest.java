/** Bounds of the deals that are left: all, two, one and none of them; one more or one fewer; several that are the best. */
public final class DealBoundsTest {
    private static final String ONE_AT_FIRST = "i0;h0:1;h0:2;h1:4;h1:5";
    private static final String ONE_AT_LAST = "i26;h0:0;h0:1;h1:3;h1:4";
    private static final String TWO = "i0;h0:1;h0:2;h1:4;h2:7";
    private static final String[] NONE = {"i0;n0", "h1:6;s1:8;s1:10", "h0:0;h1:0", "s2:26;p2:26"};

    public static void main(String[] args) {
        allDeals();
        oneDeal();
        oneDealOfEachPlayer();
        noDeal();
        twoDeals();
        allButOneDeal();
        justOneDealOfSeveral();
        bestAccusationOfSeveral();
        halfAndOneMore();
        bestQuestionOfSeveral();
        twentyCluesAgainstEnvelopes();
        twentyTimesTheSame();
        withoutTheFirstAndTheLast();
        idleNoneAndAll();
        digestOfOneDeal();
        looksChangeNothing();
        Checks.end();
    }

    /** The model counts the same; so what is told here was not just taken from the class. */
    private static AlibiDeals with(String works) {
        AlibiDeals x = Checks.with(works);
        Checks.due("digest() of " + works, x.digest(), modelWith(works).digest());
        return x;
    }

    private static Model modelWith(String works) {
        Model model = new Model();
        works.chars().forEach(model::append);
        if (!works.isEmpty()) {
            model.work();
        }
        return model;
    }

    private static void allDeals() {
        AlibiDeals x = new AlibiDeals();
        Checks.due("deals(), all", x.deals(), 27 * 90);
        Checks.due("dealsByHands(), all", x.dealsByHands(), 27 * 90);
        Checks.due("certainCards(), all", x.certainCards(), 0);
        Checks.due("hiddenCrosses(), all", x.hiddenCrosses(), 0);
        Checks.due("envelopes(), all", x.envelopes(), 27);
        Checks.due("isSolved(), all", x.isSolved(), false);
        Checks.due("bestAccusation(), all", x.bestAccusation(), 0);
        Checks.due("envelopeDeals(26), all", x.envelopeDeals(26), 90);
        Checks.due("bestQuestion(2), all", x.bestQuestion(2), 0);
        Checks.dueShare("chance(), all", x.chance(), 1.0 / 27.0);
    }

    private static void dueOneDeal(String works, int... places) {
        AlibiDeals x = with(works);
        Checks.due("deals() of " + works, x.deals(), 1);
        Checks.due("dealsByHands() of " + works, x.dealsByHands(), 1);
        Checks.due("certainCards() of " + works, x.certainCards(), 9);
        Checks.due("hiddenCrosses() of " + works, x.hiddenCrosses(), 0);
        Checks.due("crossedOff() of " + works, x.crossedOff(), 27);
        for (int card = 0; card < 9; card++) {
            Checks.due("certainPlace(" + card + ") of " + works, x.certainPlace(card), places[card]);
            Checks.due("placeByRules(" + card + ") of " + works, x.placeByRules(card), places[card]);
            for (int place = 0; place < 4; place++) {
                boolean there = places[card] == place;
                Checks.due("dealsWith(" + card + ", " + place + ") of " + works, x.dealsWith(card, place), there ? 1 : 0);
                Checks.due("mayBe(" + card + ", " + place + ") of " + works, x.mayBe(card, place), there);
                Checks.due("mayBeByRules(" + card + ", " + place + ")", x.mayBeByRules(card, place), there);
            }
        }
        Checks.dueShare("chance() of " + works, x.chance(), 1.0);
    }

    private static void dueOneEnvelope(String works, int envelope) {
        AlibiDeals x = with(works);
        Checks.due("envelopes() of " + works, x.envelopes(), 1);
        Checks.due("isSolved() of " + works, x.isSolved(), true);
        Checks.due("bestAccusation() of " + works, x.bestAccusation(), envelope);
        for (int triple = 0; triple < 27; triple++) {
            Checks.due("envelopeDeals(" + triple + ") of " + works, x.envelopeDeals(triple), triple == envelope ? 1 : 0);
        }
        for (int player = 0; player < 3; player++) {
            Checks.due("bestQuestion(" + player + ") of " + works, x.bestQuestion(player), 0);
            Checks.due("leftBy(" + player + ", 26) of " + works, x.leftBy(player, 26), 1);
            Checks.due("leftBy(" + player + ", 0) of " + works, x.leftBy(player, 0), 1);
        }
    }

    /** One deal is left, with the least and with the greatest triple in the envelope. */
    private static void oneDeal() {
        dueOneDeal(ONE_AT_FIRST, 3, 0, 0, 3, 1, 1, 3, 2, 2);
        dueOneEnvelope(ONE_AT_FIRST, 0);
        dueOneDeal(ONE_AT_LAST, 0, 0, 3, 1, 1, 3, 2, 2, 3);
        dueOneEnvelope(ONE_AT_LAST, 26);
    }

    /** "has none of the cards" in the only deal there is: 1, otherwise 0; what the question leaves is 1 in both. */
    private static void oneDealOfEachPlayer() {
        AlibiDeals x = with(ONE_AT_LAST);
        int[][] hands = {{0, 1}, {3, 4}, {6, 7}};
        for (int player = 0; player < 3; player++) {
            for (int triple = 0; triple < 27; triple++) {
                int[] cards = {triple / 9, 3 + triple / 3 % 3, 6 + triple % 3};
                boolean none = cards[player] != hands[player][0] && cards[player] != hands[player][1];
                String of = "(" + player + ", " + triple + ") of one deal";
                Checks.due("dealsIfPassed" + of, x.dealsIfPassed(player, triple), none ? 1 : 0);
                Checks.due("leftBy" + of, x.leftBy(player, triple), 1);
            }
        }
    }

    private static void dueNoDeal(AlibiDeals x, String works) {
        Checks.due("deals() of " + works, x.deals(), 0);
        Checks.due("dealsByHands() of " + works, x.dealsByHands(), 0);
        Checks.due("certainCards() of " + works, x.certainCards(), 0);
        Checks.due("envelopes() of " + works, x.envelopes(), 0);
        Checks.due("isSolved() of " + works, x.isSolved(), false);
        Checks.dueShare("chance() of " + works, x.chance(), 0.0);
        Checks.due("hiddenCrosses() of " + works, x.hiddenCrosses(), 36 - x.crossedOff());
        Checks.dueThrows(x, "bestAccusation() of " + works, Checks.STATE, x::bestAccusation);
        Checks.dueThrows(x, "bestQuestion(0) of " + works, Checks.STATE, () -> x.bestQuestion(0));
        Checks.dueThrows(x, "bestQuestion(-1) of " + works, Checks.INDEX, () -> x.bestQuestion(-1));
        Checks.dueThrows(x, "bestQuestion(3) of " + works, Checks.INDEX, () -> x.bestQuestion(3));
    }

    /** "if there are deals left"; "and there are some"; "0.0 if there are none". */
    private static void noDeal() {
        for (String works : NONE) {
            dueNoDeal(with(works), works);
            AlibiDeals x = with(works);
            for (int card = 0; card < 9; card++) {
                Checks.due("certainPlace(" + card + ") of " + works, x.certainPlace(card), -1);
                for (int place = 0; place < 4; place++) {
                    Checks.due("dealsWith(" + card + ", " + place + ") of " + works, x.dealsWith(card, place), 0);
                    Checks.due("mayBe(" + card + ", " + place + ") of " + works, x.mayBe(card, place), false);
                }
            }
            AlibiDeals y = with(works);
            for (int triple = 0; triple < 27; triple++) {
                Checks.due("envelopeDeals(" + triple + ") of " + works, y.envelopeDeals(triple), 0);
                for (int player = 0; player < 3; player++) {
                    Checks.due("dealsIfPassed of " + works, y.dealsIfPassed(player, triple), 0);
                    Checks.due("leftBy of " + works, y.leftBy(player, triple), 0);
                }
            }
        }
    }

    /** Two deals that differ by one exchange: what is in one of two is not certain, what is in both is. */
    private static void twoDeals() {
        AlibiDeals x = with(TWO);
        Checks.due("deals(), two", x.deals(), 2);
        Checks.due("dealsByHands(), two", x.dealsByHands(), 2);
        Checks.due("certainCards(), two", x.certainCards(), 7);
        Checks.due("dealsWith(5, 1), two", x.dealsWith(5, 1), 1);
        Checks.due("mayBe(5, 1), two", x.mayBe(5, 1), true);
        Checks.due("mayBe(5, 0), two", x.mayBe(5, 0), false);
        Checks.due("certainPlace(5), two", x.certainPlace(5), -1);
        Checks.due("certainPlace(8), two", x.certainPlace(8), -1);
        Checks.due("certainPlace(7), two", x.certainPlace(7), 2);
        Checks.due("dealsWith(7, 2), two", x.dealsWith(7, 2), 2);
        Checks.due("isSolved(), two", x.isSolved(), true);
        Checks.dueShare("chance(), two", x.chance(), 1.0);
        Checks.due("dealsIfPassed(1, 2), one of two", x.dealsIfPassed(1, 2), 1);
        Checks.due("leftBy(1, 2), as many passed as shown", x.leftBy(1, 2), 1);
        Checks.due("leftBy(1, 0), both passed", x.leftBy(1, 0), 2);
        Checks.due("leftBy(1, 3), both shown", x.leftBy(1, 3), 2);
        Checks.due("bestQuestion(0), two", x.bestQuestion(0), 0);
        Checks.due("bestQuestion(1), two", x.bestQuestion(1), 2);
        Checks.due("bestQuestion(2), two", x.bestQuestion(2), 2);
        AlibiDeals y = with("h0:1;h0:2;h1:4;h1:5;h2:7");
        Checks.due("deals(), two with two envelopes", y.deals(), 2);
        Checks.due("envelopes(), two", y.envelopes(), 2);
        Checks.due("isSolved(), two envelopes", y.isSolved(), false);
        Checks.due("bestAccusation(), the lower of two", y.bestAccusation(), 0);
        Checks.dueShare("chance(), one of two", y.chance(), 0.5);
    }

    /** "it is there in all of them": not if it is there in all but one. */
    private static void allButOneDeal() {
        AlibiDeals x = with("p2:6;n6;i20;s0:11");
        Checks.due("deals(), three", x.deals(), 3);
        for (int card : new int[] {0, 5, 6}) {
            Checks.due("dealsWith(" + card + ", 1), two of three", x.dealsWith(card, 1), 2);
            Checks.due("certainPlace(" + card + "), two of three", x.certainPlace(card), -1);
        }
        AlibiDeals y = with("i24;s1:9;s2:25;p1:6;h2:4");
        Checks.due("dealsWith(8, 1), two of three", y.dealsWith(8, 1), 2);
        Checks.due("certainPlace(8), two of three", y.certainPlace(8), -1);
        Checks.due("dealsWith(4, 2), all three", y.dealsWith(4, 2), 3);
        Checks.due("certainPlace(4), all three", y.certainPlace(4), 2);
    }

    /** "if it is there in some deal that is left": one is enough. */
    private static void justOneDealOfSeveral() {
        AlibiDeals x = with("n18;p1:18;h2:7;s2:6;p0:8;s0:5");
        Checks.due("deals(), ten", x.deals(), 10);
        Checks.due("dealsWith(1, 0), one of ten", x.dealsWith(1, 0), 1);
        Checks.due("mayBe(1, 0), one of ten", x.mayBe(1, 0), true);
        Checks.due("certainPlace(1), one of ten", x.certainPlace(1), -1);
        AlibiDeals y = with("l2:4;h2:2;p1:10;s2:5;h0:6;p0:19");
        Checks.due("deals(), seven", y.deals(), 7);
        Checks.due("envelopeDeals(1), one of seven", y.envelopeDeals(1), 1);
        Checks.due("envelopes(), with one of seven", y.envelopes(), 2);
        Checks.due("isSolved(), six of seven", y.isSolved(), false);
        Checks.dueShare("chance(), six of seven", y.chance(), 6.0 / 7.0);
    }

    private static void dueBest(String works, int best, int deals) {
        AlibiDeals x = with(works);
        Checks.due("bestAccusation() of " + works, x.bestAccusation(), best);
        Checks.due("envelopeDeals of the best of " + works, x.envelopeDeals(best), deals);
    }

    /** "in the most deals that are left, of several the lowest": one deal more goes before a lower number. */
    private static void bestAccusationOfSeveral() {
        AlibiDeals x = with("n18;p1:18;h2:7;s2:6;p0:8;s0:5");
        int oneFewer = 0;
        for (int triple = 0; triple < 20; triple++) {
            oneFewer += x.envelopeDeals(triple) == 2 ? 1 : 0;
        }
        Checks.due("lower triples with one deal fewer than the best", oneFewer > 0, true);
        dueBest("n18;p1:18;h2:7;s2:6;p0:8;s0:5", 20, 3);
        dueBest("p1:3;l0:8;h1:8;s1:16;p0:26;h2:4", 24, 6);
        dueBest("s2:0;l0:6;p1:14;s1:17;n1", 14, 17);
        dueBest("h0:0;h1:6;p2:8;s0:11;p1:1;h2:3", 25, 3);
        dueBest("p0:14;p0:7", 4, 18);
        dueBest("n0;n5", 1, 90);
        dueBest("h1:8;s2:8;l0:8;h0:2", 9, 10);
        dueBest("i26", 26, 90);
        dueBest("i25;l0:0", 25, 60);
    }

    /** "whichever are more": as many of both, one more that passed, one more that shows. */
    private static void halfAndOneMore() {
        AlibiDeals half = with("h1:8;s2:8;l0:8;h0:2");
        Checks.due("deals(), 76", half.deals(), 76);
        Checks.due("dealsIfPassed(2, 9), half of 76", half.dealsIfPassed(2, 9), 38);
        Checks.due("leftBy(2, 9), half of 76", half.leftBy(2, 9), 38);
        AlibiDeals odd = with("p2:17;p2:11;l1:2;p1:26;p2:22");
        Checks.due("deals(), 23", odd.deals(), 23);
        Checks.due("dealsIfPassed(0, 1), 12 of 23", odd.dealsIfPassed(0, 1), 12);
        Checks.due("leftBy(0, 1), 12 of 23", odd.leftBy(0, 1), 12);
        Checks.due("dealsIfPassed(1, 0), 11 of 23", odd.dealsIfPassed(1, 0), 11);
        Checks.due("leftBy(1, 0), 11 of 23", odd.leftBy(1, 0), 12);
    }

    private static void dueQuestion(String works, int player, int best, int leaves) {
        AlibiDeals x = with(works);
        Checks.due("bestQuestion(" + player + ") of " + works, x.bestQuestion(player), best);
        Checks.due("leftBy of the best of " + works, x.leftBy(player, best), leaves);
    }

    /** "that triple with the least that it leaves, of several the lowest": one deal fewer goes before a lower number. */
    private static void bestQuestionOfSeveral() {
        AlibiDeals x = with("l2:0;n2;l1:6;p1:7;s0:10;h2:7");
        int oneMore = 0;
        for (int triple = 0; triple < 24; triple++) {
            oneMore += x.leftBy(2, triple) == 36 ? 1 : 0;
        }
        Checks.due("lower triples that leave one deal more than the best", oneMore > 0, true);
        dueQuestion("l2:0;n2;l1:6;p1:7;s0:10;h2:7", 2, 24, 35);
        dueQuestion("n10;h2:2;l2:1;p1:2;s1:21", 2, 2, 59);
        dueQuestion("h0:8;n15;n12;n7;s1:17;s2:23", 0, 1, 70);
        dueQuestion("h0:8;n15;n12;n7;s1:17;s2:23", 1, 1, 63);
        dueQuestion("n16;l1:4;p1:25;h1:6;h2:4;n0", 2, 25, 40);
        dueQuestion("h0:0", 0, 9, 342);
        dueQuestion("", 0, 0, 1404);
    }

    private static AlibiDeals against(int from) {
        AlibiDeals x = new AlibiDeals();
        for (int i = 0; i < 20; i++) {
            x.accuse((from + i) / 9, 3 + (from + i) / 3 % 3, 6 + (from + i) % 3);
        }
        return x;
    }

    /** 20 clues, each of them with its own part: the greatest number of clues that is counted. */
    private static void twentyCluesAgainstEnvelopes() {
        AlibiDeals x = against(7);
        Checks.due("deals() of 20", x.deals(), 7 * 90);
        Checks.due("dealsByHands() of 20", x.dealsByHands(), 7 * 90);
        Checks.due("envelopes() of 20", x.envelopes(), 7);
        Checks.due("bestAccusation() of 20", x.bestAccusation(), 0);
        Checks.due("envelopeDeals(6) of 20", x.envelopeDeals(6), 90);
        Checks.due("envelopeDeals(7) of 20", x.envelopeDeals(7), 0);
        Checks.due("envelopeDeals(26) of 20", x.envelopeDeals(26), 0);
        Checks.due("idleClues() of 20", x.idleClues(), 0);
        Checks.due("untrueClues() of 20", x.untrueClues(), 0);
        for (int clue = 0; clue < 20; clue++) {
            Checks.due("dealsWithout(" + clue + ") of 20", x.dealsWithout(clue), 8 * 90);
        }
        Checks.dueShare("chance() of 20", x.chance(), 1.0 / 7.0);
        x.exchange(0, 2);
        Checks.due("untrueClues() of 20 behind exchange(0, 2)", x.untrueClues(), 1);
    }

    private static void twentyTimesTheSame() {
        AlibiDeals x = new AlibiDeals();
        for (int i = 0; i < 20; i++) {
            x.noteHas(0, 1);
        }
        Checks.due("deals() of 20 times h0:1", x.deals(), 540);
        Checks.due("dealsByHands() of 20 times h0:1", x.dealsByHands(), 540);
        Checks.due("crossedOff() of 20 times h0:1", x.crossedOff(), 3);
        Checks.due("idleClues() of 20 times h0:1", x.idleClues(), 20);
        Checks.due("dealsWithout(19) of 20 times h0:1", x.dealsWithout(19), 540);
        x.dropClue(19);
        x.noteLacks(0, 1);
        Checks.due("isBroken() by the clue 19", x.isBroken(), true);
        Checks.due("deals() by the clue 19", x.deals(), 0);
        Checks.due("dealsByHands() by the clue 19", x.dealsByHands(), 0);
        Checks.due("dealsWithout(19), which is against the others", x.dealsWithout(19), 540);
        Checks.due("dealsWithout(18)", x.dealsWithout(18), 0);
        Checks.due("idleClues(), all but one", x.idleClues(), 19);
    }

    /** "without a clue": the first and the last one, one that alone leaves no deal, and the only one. */
    private static void withoutTheFirstAndTheLast() {
        AlibiDeals x = with("h0:0;n13;i26");
        Checks.due("dealsWithout(0) of three", x.dealsWithout(0), 90);
        Checks.due("dealsWithout(1) of three", x.dealsWithout(1), 30);
        Checks.due("dealsWithout(2) of three", x.dealsWithout(2), 540 - 30);
        Checks.dueThrows(x, "dealsWithout(3) of three", Checks.INDEX, () -> x.dealsWithout(3));
        Checks.due("dealsWithout(0), the only one", with("i0").dealsWithout(0), 2430);
        AlibiDeals none = with("i0;h0:0");
        Checks.due("dealsWithout(0), none left with both", none.dealsWithout(0), 540);
        Checks.due("dealsWithout(1), none left with both", none.dealsWithout(1), 90);
        Checks.due("idleClues(), none left with both", none.idleClues(), 0);
    }

    /** "without each of them alone as many deals would be left": also as many as none. */
    private static void idleNoneAndAll() {
        Checks.due("idleClues() of n0;n0", with("n0;n0").idleClues(), 2);
        Checks.due("idleClues() of n0;n1", with("n0;n1").idleClues(), 0);
        Checks.due("idleClues() of i0;n1", with("i0;n1").idleClues(), 1);
        Checks.due("idleClues() of i0;i9;i18", with("i0;i9;i18").idleClues(), 3);
        Checks.due("idleClues() of i0;n0;n1", with("i0;n0;n1").idleClues(), 1);
        Checks.due("idleClues() of i0;i0;n0", with("i0;i0;n0").idleClues(), 2);
    }

    /** "if a deal is left, bestAccusation, and for each player bestQuestion": also if it is just one. */
    private static void digestOfOneDeal() {
        for (String works : new String[] {ONE_AT_FIRST, ONE_AT_LAST, TWO, "i0;n0", "h1:6;s1:8;s1:10", ""}) {
            AlibiDeals x = new AlibiDeals();
            Model m = modelWith(works);
            if (!works.isEmpty()) {
                Checks.works(x, works);
            }
            Checks.due("digest() of " + works, x.digest(), m.digest());
            Checks.type(x, "~".repeat(60));
            "~".repeat(60).chars().forEach(m::append);
            Checks.due("digest() of " + works + " with a full buffer", x.digest(), m.digest());
        }
    }

    /** "looks ...; nothing is changed": each call that only tells something, in each state at the bounds. */
    private static void looksChangeNothing() {
        for (Scene scene : Scene.values()) {
            AlibiDeals x = scene.make();
            for (Calls.Call call : Calls.withNumbers(x.clues())) {
                boolean looks = !"exchange noteHas noteLacks noteShows ask look accuse append dropClue".contains(call.name());
                if (looks && call.allowsSome()) {
                    call.corners().forEach(row -> Scene.answer(() -> call.own().apply(x, row)));
                }
            }
            x.firstError();
            x.hasStopped();
            Scene.answer(x::stoppedPart);
            Scene.answer(x::whyStopped);
            x.savedStates();
            x.trueEnvelope();
            x.clues();
            x.untrueClues();
            x.deals();
            x.dealsByHands();
            x.certainCards();
            x.isBroken();
            x.crossedOff();
            x.hiddenCrosses();
            x.envelopes();
            Scene.answer(x::bestAccusation);
            x.isSolved();
            x.idleClues();
            x.chance();
            Checks.dueSame(scene + ": the state behind all looks", Scene.whole(x), Scene.whole(scene.make()));
        }
    }
}

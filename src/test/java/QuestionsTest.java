/** Promises 45 to 51: what a question would leave, clues that are idle, the chance, the digest. */
public final class QuestionsTest {
    public static void main(String[] args) {
        promise45();
        promise46();
        promise47();
        promise48();
        promise48Changes();
        promise49();
        promise50();
        promise50OfEachShare();
        promise51();
        promise51Differs();
        promise51FromTheFace();
        refusals();
        Checks.end();
    }

    private static void promise45() {
        AlibiDeals x = new AlibiDeals();
        for (int player = 0; player < 3; player++) {
            for (int triple = 0; triple < 27; triple++) {
                Checks.due("45: dealsIfPassed at first", x.dealsIfPassed(player, triple), 1026);
            }
        }
        AlibiDeals has = Checks.with("h0:0");
        Checks.due("45: dealsIfPassed(0, 0) of h0:0", has.dealsIfPassed(0, 0), 0);
        Checks.due("45: dealsIfPassed(0, 8) of h0:0", has.dealsIfPassed(0, 8), 0);
        Checks.due("45: dealsIfPassed(0, 13) of h0:0", has.dealsIfPassed(0, 13), 342);
        Checks.due("45: dealsIfPassed(0, 26) of h0:0", has.dealsIfPassed(0, 26), 342);
        AlibiDeals passed = Checks.with("p1:7");
        Checks.due("45: dealsIfPassed(1, 7) of p1:7", passed.dealsIfPassed(1, 7), 1026);
        AlibiDeals shown = Checks.with("s1:7");
        Checks.due("45: dealsIfPassed(1, 7) of s1:7", shown.dealsIfPassed(1, 7), 0);
        AlibiDeals one = Checks.with("i0;h0:1;h0:2;h1:4;h1:5");
        for (int triple = 0; triple < 27; triple++) {
            Checks.due("45: dealsIfPassed(0, " + triple + ")", one.dealsIfPassed(0, triple), triple < 9 ? 1 : 0);
            Checks.due("45: dealsIfPassed(1, " + triple + ")", one.dealsIfPassed(1, triple), triple / 3 % 3 == 0 ? 1 : 0);
            Checks.due("45: dealsIfPassed(2, " + triple + ")", one.dealsIfPassed(2, triple), triple % 3 == 0 ? 1 : 0);
        }
        AlibiDeals none = Checks.with("i0;n0");
        Checks.due("45: dealsIfPassed(0, 0), none left", none.dealsIfPassed(0, 0), 0);
    }

    private static void promise46() {
        AlibiDeals x = new AlibiDeals();
        for (int player = 0; player < 3; player++) {
            for (int triple = 0; triple < 27; triple++) {
                Checks.due("46: leftBy at first", x.leftBy(player, triple), 1404);
            }
        }
        AlibiDeals has = Checks.with("h0:0");
        Checks.due("46: leftBy(0, 0) of h0:0", has.leftBy(0, 0), 540);
        Checks.due("46: leftBy(0, 13) of h0:0", has.leftBy(0, 13), 342);
        AlibiDeals passed = Checks.with("p1:7");
        Checks.due("46: leftBy(1, 7) of p1:7", passed.leftBy(1, 7), 1026);
        AlibiDeals shown = Checks.with("s1:7");
        Checks.due("46: leftBy(1, 7) of s1:7", shown.leftBy(1, 7), 1404);
        Checks.due("46: leftBy(0, 0), none left", Checks.with("i0;n0").leftBy(0, 0), 0);
        Checks.due("46: leftBy(2, 0) of one deal", Checks.with("i0;h0:1;h0:2;h1:4;h1:5").leftBy(2, 0), 1);
        Checks.due("46: leftBy(2, 1) of one deal", Checks.with("i0;h0:1;h0:2;h1:4;h1:5").leftBy(2, 1), 1);
    }

    private static void promise47() {
        AlibiDeals x = new AlibiDeals();
        AlibiDeals has = Checks.with("h0:0");
        for (int player = 0; player < 3; player++) {
            Checks.due("47: bestQuestion at first", x.bestQuestion(player), 0);
        }
        Checks.due("47: bestQuestion(0) of h0:0", has.bestQuestion(0), 9);
        Checks.due("47: bestQuestion(1) of h0:0", has.bestQuestion(1), 0);
        Checks.due("47: bestQuestion(0) of i26", Checks.with("i26").bestQuestion(0), 2);
        Checks.due("47: bestQuestion(0) of i0", Checks.with("i0").bestQuestion(0), 4);
        AlibiDeals one = Checks.with("i0;h0:1;h0:2;h1:4;h1:5");
        Checks.due("47: bestQuestion(2) of one deal", one.bestQuestion(2), 0);
        AlibiDeals two = Checks.with("i0;h0:1;h0:2;h1:4;l1:7");
        Checks.due("47: bestQuestion(1) of two deals", two.bestQuestion(1), 2);
        Checks.due("47: bestQuestion(0) of two deals", two.bestQuestion(0), 0);
        AlibiDeals none = Checks.with("i0;n0");
        for (int player = 0; player < 3; player++) {
            int p = player;
            Checks.dueThrows(none, "47: bestQuestion(" + p + "), none left", Checks.STATE, () -> none.bestQuestion(p));
        }
        AlibiDeals unseen = Checks.with("h1:6;s1:8;s1:10");
        Checks.dueThrows(unseen, "47: bestQuestion(0), none left", Checks.STATE, () -> unseen.bestQuestion(0));
    }

    private static void dueWithout(String works, int... want) {
        AlibiDeals x = Checks.with(works);
        int idle = 0;
        for (int clue = 0; clue < want.length; clue++) {
            Checks.due("48: dealsWithout(" + clue + ") of " + works, x.dealsWithout(clue), want[clue]);
            idle += want[clue] == x.deals() ? 1 : 0;
        }
        Checks.due("49: idleClues() of " + works, x.idleClues(), idle);
        Checks.due("24: clues() behind it", x.clues(), want.length);
    }

    private static void promise48() {
        dueWithout("h0:0", 2430);
        dueWithout("h0:0;i0", 90, 540);
        dueWithout("h0:0;h1:0", 540, 540);
        dueWithout("i0;i0", 90, 90);
        dueWithout("h0:0;l1:0", 1890, 540);
        dueWithout("i0;i9;i18", 0, 0, 0);
        dueWithout("n0;n1;n2", 2250, 2250, 2250);
        dueWithout("s0:0;p0:0", 1026, 1404);
        dueWithout("s0:0;p0:0;n4", 990, 1350, 0);
        dueWithout("i0;h0:1;h0:2;h1:4;h1:5", 3, 3, 3, 3, 3);
    }

    /** What is counted once must not stand when clues change. */
    private static void promise48Changes() {
        AlibiDeals x = new AlibiDeals();
        x.noteHas(0, 0);
        Checks.due("48: dealsWithout(0) of one clue", x.dealsWithout(0), 2430);
        Checks.due("49: idleClues() of one clue", x.idleClues(), 0);
        x.accuse(0, 3, 6);
        Checks.due("48: dealsWithout(0) behind accuse", x.dealsWithout(0), 90);
        Checks.due("48: dealsWithout(1) behind accuse", x.dealsWithout(1), 540);
        x.undo();
        Checks.due("48: dealsWithout(0) behind undo()", x.dealsWithout(0), 2430);
        Checks.dueThrows(x, "48: dealsWithout(1) behind undo()", Checks.INDEX, () -> x.dealsWithout(1));
        x.noteHas(0, 0);
        Checks.due("48: dealsWithout(0) behind noteHas", x.dealsWithout(0), 540);
        Checks.due("49: idleClues() behind noteHas", x.idleClues(), 2);
        x.dropClue(0);
        Checks.due("48: dealsWithout(0) behind dropClue(0)", x.dealsWithout(0), 2430);
        Checks.due("49: idleClues() behind dropClue(0)", x.idleClues(), 0);
        x.keep();
        Checks.works(x, "x0;s0:0;p0:0");
        Checks.due("48: dealsWithout(0) behind work()", x.dealsWithout(0), 1026);
        Checks.due("48: dealsWithout(1) behind work()", x.dealsWithout(1), 1404);
        x.restore();
        Checks.due("48: dealsWithout(0) behind restore()", x.dealsWithout(0), 2430);
        x.exchange(1, 2);
        Checks.due("48: dealsWithout(0) behind exchange(1, 2)", x.dealsWithout(0), 2430);
    }

    private static void promise49() {
        Checks.due("49: idleClues() without clues", new AlibiDeals().idleClues(), 0);
        Checks.due("49: idleClues() of i0", Checks.with("i0").idleClues(), 0);
        Checks.due("49: idleClues() of i0;i0", Checks.with("i0;i0").idleClues(), 2);
        Checks.due("49: idleClues() of h0:0;l1:0", Checks.with("h0:0;l1:0").idleClues(), 1);
        Checks.due("49: idleClues() of i0;i9;i18", Checks.with("i0;i9;i18").idleClues(), 3);
        Checks.due("49: idleClues() of i0;i9", Checks.with("i0;i9").idleClues(), 0);
        AlibiDeals x = new AlibiDeals();
        for (int i = 0; i < 20; i++) {
            x.noteHas(0, 0);
        }
        Checks.due("49: idleClues() of 20", x.idleClues(), 20);
        Checks.due("48: dealsWithout(19) of 20", x.dealsWithout(19), 540);
        x.dropClue(0);
        Checks.due("49: idleClues() of 19", x.idleClues(), 19);
    }

    private static void promise50() {
        Checks.dueShare("50: chance() at first", new AlibiDeals().chance(), 90.0 / 2430.0);
        Checks.dueShare("50: chance() of i0", Checks.with("i0").chance(), 1.0);
        Checks.dueShare("50: chance() of i0;n0", Checks.with("i0;n0").chance(), 0.0);
        Checks.dueShare("50: chance() of s0:0", Checks.with("s0:0").chance(), 72.0 / 1404.0);
        Checks.dueShare("50: chance() of p0:0", Checks.with("p0:0").chance(), 90.0 / 1026.0);
        Checks.dueShare("50: chance() of h0:0", Checks.with("h0:0").chance(), 30.0 / 540.0);
        Checks.dueShare("50: chance() of n0", Checks.with("n0").chance(), 90.0 / 2340.0);
        Checks.dueShare("50: chance() of two", Checks.with("h0:1;h0:2;h1:4;h1:5;h2:7").chance(), 0.5);
    }

    /** The chance is that of the best accusation, whatever share of the deals it has; the digest has all of its bits. */
    private static void promise50OfEachShare() {
        String[] some = {"s0:5;n7", "p1:22;s2:3", "l2:4;n0;n1", "s0:13;s1:13;s2:13", "h1:8;s2:8;l0:8;h0:2", "p2:17;p2:11;l1:2",
            "n18;p1:18;h2:7;s2:6;p0:8;s0:5", "p2:6;n6;i20;s0:11", "l0:0;l0:4;l0:8;l1:2", "h0:1;h0:2;h1:4;h1:5;h2:7"};
        for (String works : some) {
            AlibiDeals x = Checks.with(works);
            int most = 0;
            for (int triple = 0; triple < 27; triple++) {
                most = Math.max(most, x.envelopeDeals(triple));
            }
            Checks.due("43: envelopeDeals of the best of " + works, x.envelopeDeals(x.bestAccusation()), most);
            Checks.dueShare("50: chance() of " + works, x.chance(), (double) most / (double) x.deals());
            Checks.due("51: digest() of " + works, x.digest(), listed(x, ""));
        }
    }

    private static void promise51() {
        AlibiDeals x = new AlibiDeals();
        Checks.due("51: digest() at first", x.digest(), -483310601739911767L);
        Checks.due("51: digest() again", x.digest(), -483310601739911767L);
        x.append('h');
        Checks.due("51: digest() with a sign", x.digest(), modelOf("h", 0));
        x.clearBuffer();
        Checks.due("51: digest() behind clearBuffer()", x.digest(), -483310601739911767L);
        String[] some = {"h0:1", "i0", "i0;n0", "x0", "n0;x4;n1", "a0:9;v1:4;!0", "h1:3;s1:5", "s0:0", "h1:6;s1:8;s1:10",
            "h0:1;h0:2;h1:4;h1:5;h2:7", "p0:0;p1:13;p2:26;n5;n6;l0:2"};
        for (String works : some) {
            AlibiDeals y = new AlibiDeals();
            Checks.works(y, works);
            Checks.due("51: digest() of " + works, y.digest(), modelOf(works, 1));
        }
    }

    private static long modelOf(String text, int works) {
        Model model = new Model();
        for (char code : text.toCharArray()) {
            model.append(code);
        }
        for (int i = 0; i < works; i++) {
            model.work();
        }
        return model.digest();
    }

    private static void dueOther(String what, AlibiDeals x, AlibiDeals y) {
        if (x.digest() == y.digest()) {
            Checks.tell("51: digest() doesn't tell " + what);
        }
    }

    private static void promise51Differs() {
        AlibiDeals x = new AlibiDeals();
        AlibiDeals y = new AlibiDeals();
        x.append('a');
        dueOther("a sign of the buffer", x, y);
        y.append('v');
        dueOther("which sign there is", x, y);
        x.clearBuffer();
        y.clearBuffer();
        y.dropAll();
        dueOther("a saved state", x, y);
        x.exchange(4, 8);
        dueOther("the master's deal", x, y);
        y.exchange(4, 8);
        x.dropAll();
        Checks.due("51: digest() of the same", x.digest(), y.digest());
        Checks.works(x, "n0;x1");
        Checks.works(y, "n0");
        dueOther("a stop", x, y);
        x.keep();
        x.undo();
        y.undo();
        Checks.due("51: digest() with a snapshot", x.digest(), y.digest());
    }

    /** The list of the document, asked of the object itself. */
    private static void promise51FromTheFace() {
        AlibiDeals x = new AlibiDeals();
        x.exchange(2, 5);
        Checks.works(x, "a0:12;v1:22;n3;l2:0;s2:17;x9");
        Checks.type(x, "h0:~");
        Checks.due("51: digest() by the list", x.digest(), listed(x, "h0:~"));
        AlibiDeals none = Checks.with("i0;n0");
        Checks.due("51: digest() by the list, none left", none.digest(), listed(none, ""));
    }

    private static long hash(long start, long... values) {
        long hash = start;
        for (long value : values) {
            hash = 31 * hash + value;
        }
        return hash;
    }

    private static long flag(boolean value) {
        return value ? 1 : 0;
    }

    private static long listed(AlibiDeals x, String buffer) {
        long h = hash(4597, x.trueEnvelope(), x.clues(), x.untrueClues(), x.deals(), x.dealsByHands(), x.certainCards());
        h = hash(h, flag(x.isBroken()), x.crossedOff(), x.hiddenCrosses(), x.envelopes(), flag(x.isSolved()));
        h = hash(h, x.idleClues(), x.savedStates());
        if (x.deals() > 0) {
            h = hash(h, x.bestAccusation(), x.bestQuestion(0), x.bestQuestion(1), x.bestQuestion(2));
        }
        for (int c = 0; c < x.clues(); c++) {
            h = hash(h, x.kindOf(c), x.playerOf(c), x.cardsOf(c), flag(x.isTrue(c)), x.dealsWithout(c));
        }
        for (int card = 0; card < 9; card++) {
            h = hash(h, x.truePlace(card), x.certainPlace(card), x.placeByRules(card));
            for (int place = 0; place < 4; place++) {
                h = hash(h, x.dealsWith(card, place), flag(x.mayBeByRules(card, place)));
            }
        }
        for (int triple = 0; triple < 27; triple++) {
            h = hash(h, x.envelopeDeals(triple), x.leftBy(0, triple), x.leftBy(1, triple), x.leftBy(2, triple));
        }
        h = hash(h, flag(x.hasStopped()));
        if (x.hasStopped()) {
            h = hash(h, x.stoppedPart(), x.whyStopped());
        }
        h = hash(h, Double.doubleToLongBits(x.chance()), buffer.length());
        for (char code : buffer.toCharArray()) {
            h = hash(h, code);
        }
        return h;
    }

    private static void refusals() {
        for (String works : new String[] {"n0", "i0;n0"}) {
            AlibiDeals x = Checks.with(works);
            for (int no : new int[] {-1, 3, Integer.MIN_VALUE, Integer.MAX_VALUE}) {
                Checks.dueThrows(x, "45: dealsIfPassed(" + no + ", 0)", Checks.INDEX, () -> x.dealsIfPassed(no, 0));
                Checks.dueThrows(x, "46: leftBy(" + no + ", 0)", Checks.INDEX, () -> x.leftBy(no, 0));
                Checks.dueThrows(x, "47: bestQuestion(" + no + ")", Checks.INDEX, () -> x.bestQuestion(no));
            }
            for (int no : new int[] {-1, 27, Integer.MIN_VALUE, Integer.MAX_VALUE}) {
                Checks.dueThrows(x, "45: dealsIfPassed(0, " + no + ")", Checks.INDEX, () -> x.dealsIfPassed(0, no));
                Checks.dueThrows(x, "46: leftBy(0, " + no + ")", Checks.INDEX, () -> x.leftBy(0, no));
            }
            for (int no : new int[] {-1, x.clues(), 20, Integer.MIN_VALUE, Integer.MAX_VALUE}) {
                Checks.dueThrows(x, "48: dealsWithout(" + no + ")", Checks.INDEX, () -> x.dealsWithout(no));
            }
        }
        AlibiDeals none = new AlibiDeals();
        Checks.dueThrows(none, "48: dealsWithout(0) without clues", Checks.INDEX, () -> none.dealsWithout(0));
    }
}

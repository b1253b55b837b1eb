/** Promises 41 to 44: envelopes and the best accusation. */
public final class EnvelopesTest {
    public static void main(String[] args) {
        promise41();
        promise42();
        promise43();
        promise44();
        refusals();
        Checks.end();
    }

    private static int together(int triple, int other) {
        int same = triple / 9 == other / 9 ? 1 : 0;
        same += triple / 3 % 3 == other / 3 % 3 ? 1 : 0;
        return same + (triple % 3 == other % 3 ? 1 : 0);
    }

    private static void promise41() {
        AlibiDeals x = new AlibiDeals();
        AlibiDeals shown = Checks.with("s0:5");
        AlibiDeals passed = Checks.with("p2:21");
        AlibiDeals has = Checks.with("h1:1");
        AlibiDeals none = Checks.with("i3;n3");
        AlibiDeals notThis = Checks.with("n17");
        AlibiDeals only = Checks.with("i8");
        int[] free = {3, 6, 10, 15};
        for (int triple = 0; triple < 27; triple++) {
            String call = "41: envelopeDeals(" + triple + ")";
            Checks.due(call, x.envelopeDeals(triple), 90);
            Checks.due(call + " of s0:5", shown.envelopeDeals(triple), 90 - 6 * free[together(triple, 5)]);
            Checks.due(call + " of p2:21", passed.envelopeDeals(triple), 6 * free[together(triple, 21)]);
            Checks.due(call + " of h1:1", has.envelopeDeals(triple), triple / 9 == 1 ? 0 : 30);
            Checks.due(call + " of i3;n3", none.envelopeDeals(triple), 0);
            Checks.due(call + " of n17", notThis.envelopeDeals(triple), triple == 17 ? 0 : 90);
            Checks.due(call + " of i8", only.envelopeDeals(triple), triple == 8 ? 90 : 0);
        }
    }

    private static void promise42() {
        Checks.due("42: envelopes() at first", new AlibiDeals().envelopes(), 27);
        Checks.due("42: envelopes() of n17", Checks.with("n17").envelopes(), 26);
        Checks.due("42: envelopes() of i17", Checks.with("i17").envelopes(), 1);
        Checks.due("42: envelopes() of h1:1", Checks.with("h1:1").envelopes(), 18);
        Checks.due("42: envelopes() of s0:5", Checks.with("s0:5").envelopes(), 26);
        Checks.due("42: envelopes() of p2:21", Checks.with("p2:21").envelopes(), 27);
        Checks.due("42: envelopes() of i3;n3", Checks.with("i3;n3").envelopes(), 0);
        Checks.due("42: envelopes() of n0;n1;n2", Checks.with("n0;n1;n2").envelopes(), 24);
        AlibiDeals x = new AlibiDeals();
        for (int triple = 0; triple < 20; triple++) {
            Checks.works(x, "n" + triple);
        }
        Checks.due("42: envelopes() of 20 that are not", x.envelopes(), 7);
    }

    private static void promise43() {
        Checks.due("43: bestAccusation() at first", new AlibiDeals().bestAccusation(), 0);
        Checks.due("43: bestAccusation() of n0", Checks.with("n0").bestAccusation(), 1);
        Checks.due("43: bestAccusation() of n0;n1;n2", Checks.with("n0;n1;n2").bestAccusation(), 3);
        Checks.due("43: bestAccusation() of h0:0", Checks.with("h0:0").bestAccusation(), 9);
        Checks.due("43: bestAccusation() of s0:0", Checks.with("s0:0").bestAccusation(), 13);
        Checks.due("43: bestAccusation() of s0:13", Checks.with("s0:13").bestAccusation(), 0);
        Checks.due("43: bestAccusation() of p2:21", Checks.with("p2:21").bestAccusation(), 21);
        Checks.due("43: bestAccusation() of p2:26", Checks.with("p2:26").bestAccusation(), 26);
        Checks.due("43: bestAccusation() of i26", Checks.with("i26").bestAccusation(), 26);
        AlibiDeals x = Checks.with("i3;n3");
        Checks.dueThrows(x, "43: bestAccusation(), none left", Checks.STATE, x::bestAccusation);
        AlibiDeals y = Checks.with("h1:6;s1:8;s1:10");
        Checks.dueThrows(y, "43: bestAccusation(), none left, not broken", Checks.STATE, y::bestAccusation);
        y.undo();
        Checks.due("43: bestAccusation() behind undo()", y.bestAccusation(), 0);
    }

    private static void promise44() {
        Checks.due("44: isSolved() at first", new AlibiDeals().isSolved(), false);
        Checks.due("44: isSolved() of n0", Checks.with("n0").isSolved(), false);
        Checks.due("44: isSolved() of i0", Checks.with("i0").isSolved(), true);
        Checks.due("44: isSolved() of i26", Checks.with("i26").isSolved(), true);
        Checks.due("44: isSolved() of i3;n3", Checks.with("i3;n3").isSolved(), false);
        Checks.due("44: isSolved() of h1:6;s1:8;s1:10", Checks.with("h1:6;s1:8;s1:10").isSolved(), false);
        Checks.due("44: isSolved() of six", Checks.with("h0:1;h0:2;h1:4;h1:5;h2:7;h2:8").isSolved(), true);
        Checks.due("44: isSolved() of five", Checks.with("h0:1;h0:2;h1:4;h1:5;h2:7").isSolved(), false);
        Checks.due("44: isSolved() of five and n1", Checks.with("h0:1;h0:2;h1:4;h1:5;h2:7;n2").isSolved(), true);
        Checks.due("44: isSolved(), not the master's", Checks.with("h0:0;h0:1;h1:3;h1:4;h2:6;h2:7").isSolved(), true);
    }

    private static void refusals() {
        for (String works : new String[] {"n0", "i3;n3"}) {
            AlibiDeals x = Checks.with(works);
            for (int no : new int[] {-1, 27, Integer.MIN_VALUE, Integer.MAX_VALUE}) {
                Checks.dueThrows(x, "41: envelopeDeals(" + no + ")", Checks.INDEX, () -> x.envelopeDeals(no));
            }
        }
    }
}

/** Promises 11 to 17: the buffer, works as a text, and the place of a stop. */
public final class TextTest {
    private static final String LETTERS = "hlspniavx!";
    private static final String DIGITS = "0123456789";

    public static void main(String[] args) {
        promise11();
        promise12();
        promise13();
        promise13EverySign();
        promise13Length();
        promise14();
        promise14Answers();
        promise14Refusals();
        promise14Undo();
        promises15To17();
        promises15To17Full();
        promises15To17Undo();
        Checks.end();
    }

    private static void dueClue(AlibiDeals x, int clue, int kind, int player, int cards) {
        Checks.due("kindOf(" + clue + ")", x.kindOf(clue), kind);
        Checks.due("playerOf(" + clue + ")", x.playerOf(clue), player);
        Checks.due("cardsOf(" + clue + ")", x.cardsOf(clue), cards);
    }

    private static String times(String part, int times) {
        return part.repeat(times);
    }

    private static void promise11() {
        AlibiDeals x = new AlibiDeals();
        for (int no : new int[] {32, 127, 0, -1, 10, 233, 65536 + 104, Integer.MIN_VALUE, Integer.MAX_VALUE}) {
            Checks.dueThrows(x, "11: append(" + no + ")", Checks.ARGUMENT, () -> x.append(no));
        }
        for (int i = 1; i <= 60; i++) {
            Checks.due("11: append, the " + i + "th", x.append(i % 2 == 0 ? 33 : 126), i);
        }
        Checks.dueThrows(x, "11: append(33) with 60", Checks.STATE, () -> x.append(33));
        Checks.dueThrows(x, "11: append(104) with 60", Checks.STATE, () -> x.append(104));
        Checks.dueThrows(x, "11: append(32) with 60", Checks.ARGUMENT, () -> x.append(32));
        Checks.dueThrows(x, "11: append(127) with 60", Checks.ARGUMENT, () -> x.append(127));
        Checks.due("11: savedStates()", x.savedStates(), 0);
        x.clearBuffer();
        for (int code = 33; code <= 92; code++) {
            Checks.due("11: append(" + code + ")", x.append(code), code - 32);
        }
    }

    private static void promise12() {
        AlibiDeals x = new AlibiDeals();
        Checks.due("12: clearBuffer() of an empty one", x.clearBuffer(), 0);
        Checks.type(x, "h0:0;?");
        Checks.due("12: clearBuffer()", x.clearBuffer(), 6);
        Checks.due("12: clearBuffer() again", x.clearBuffer(), 0);
        Checks.due("12: append behind it", x.append('n'), 1);
        Checks.due("12: savedStates()", x.savedStates(), 0);
        x.append('1');
        Checks.due("12: firstError()", x.firstError(), 2);
        Checks.due("12: work()", x.work(), 1);
        Checks.type(x, times("n", 60));
        Checks.due("12: clearBuffer() of 60", x.clearBuffer(), 60);
    }

    private static void dueError(String text, int want) {
        AlibiDeals x = new AlibiDeals();
        Checks.type(x, text);
        Checks.due("13: firstError() of " + text, x.firstError(), want);
        Checks.due("13: clearBuffer() of " + text, x.clearBuffer(), text.length());
    }

    private static void promise13() {
        String[] none = {"", "h", "h0", "h0:", "h0:8", "l2:0", "s2:26", "p1:19", "s0:2", "n26", "i0", "n9", "a1:9", "v0:26",
            "!3", "!26", "x0", "x19", "x9", "x1", "n0;", "n0;n", "n0;n0", "x2;h1:8;l0:0;s0:1;p0:2;n3;i4;a0:5;v1:6;!7",
            "n0;h1:", "!10;x10;"};
        for (String text : none) {
            dueError(text, text.length());
        }
        String[] some = {"h0:9@3", "h3@1", "h00@2", "g@0", "H0:0@0", "h0:00@4", "h0:10@4", "h0:1;9@5", "s2:27@4", "s2:30@4",
            "s2:05@4", "s2:260@5", "s0:100@5", "n27@2", "n260@3", "i00@2", "n1:@2", "!:@1", "x20@2", "x00@2", "x190@3",
            ";@0", "n0;;@3", "a3@1", "n-1@1", "h:@1", "n0,n0@2", "nn@1", "hh@1", "h0h@2", "h0;@2", "h;@1", "n;@1", "h0:;@3",
            "h0:h@3", "n0n@2", "n0!@2", "x1x@2", "!!@1", "l9@1", "l0:9@3", "p0:29@4", "a0:27@4", "v0:27@4", "i27@2", "!27@2",
            "zzz@0", "n0;z9@3", "n0;h3zz@4", "x+1@1", "n0:@2", "x99@2", "x100@3"};
        for (String row : some) {
            int at = row.indexOf('@');
            dueError(row.substring(0, at), Integer.parseInt(row.substring(at + 1)));
        }
        AlibiDeals x = new AlibiDeals();
        Checks.type(x, "n0;");
        Checks.due("13: firstError()", x.firstError(), 3);
        Checks.due("13: firstError() again", x.firstError(), 3);
        x.append('?');
        x.append('n');
        Checks.due("13: firstError() behind a wrong sign", x.firstError(), 3);
        Checks.due("13: savedStates()", x.savedStates(), 0);
    }

    private static void dueNext(String before, String allowed) {
        for (char code = 33; code <= 126; code++) {
            int right = before.length() + (allowed.indexOf(code) >= 0 ? 1 : 0);
            dueError(before + code, right);
        }
    }

    private static void promise13EverySign() {
        dueNext("", LETTERS);
        dueNext("n0;", LETTERS);
        for (char letter : "hlspav".toCharArray()) {
            dueNext("" + letter, "012");
            dueNext(letter + "2", ":");
        }
        for (char letter : "hl".toCharArray()) {
            dueNext(letter + "0:", "012345678");
            dueNext(letter + "1:0", ";");
            dueNext(letter + "2:1", ";");
            dueNext(letter + "2:8", ";");
        }
        for (String head : new String[] {"s0:", "p1:", "a2:", "v0:", "n", "i", "!"}) {
            dueNext(head, DIGITS);
            dueNext(head + "0", ";");
            dueNext(head + "1", DIGITS + ";");
            dueNext(head + "2", "0123456;");
            dueNext(head + "3", ";");
            dueNext(head + "9", ";");
            dueNext(head + "10", ";");
            dueNext(head + "26", ";");
        }
        dueNext("x", DIGITS);
        dueNext("x0", ";");
        dueNext("x1", DIGITS + ";");
        dueNext("x2", ";");
        dueNext("x19", ";");
    }

    /** Works may be of any length, so what the buffer can't hold any more is no error. */
    private static void promise13Length() {
        dueError(times("n0;", 20), 60);
        dueError(times("n0;", 19) + "n0h", 59);
        dueError(times("n0;", 19) + "h0:", 60);
        dueError(times("n0;", 19) + "n26", 60);
    }

    private static void promise14() {
        AlibiDeals x = new AlibiDeals();
        Checks.due("14: work()", Checks.works(x, "h0:1;l1:0;s2:26;p0:0;n5;i0"), 6);
        dueClue(x, 0, 0, 0, 2);
        dueClue(x, 1, 1, 1, 1);
        dueClue(x, 2, 2, 2, 4 + 32 + 256);
        dueClue(x, 3, 3, 0, 1 + 8 + 64);
        dueClue(x, 4, 4, -1, 1 + 16 + 256);
        dueClue(x, 5, 5, -1, 1 + 8 + 64);
        Checks.due("14: savedStates()", x.savedStates(), 1);
        Checks.due("14: clearBuffer()", x.clearBuffer(), 0);
        Checks.due("14: work() of x", Checks.works(x, "x1;x1;x3"), 3);
        Checks.due("14: clues()", x.clues(), 3);
        dueClue(x, 0, 0, 0, 2);
        dueClue(x, 1, 3, 0, 1 + 8 + 64);
        dueClue(x, 2, 4, -1, 1 + 16 + 256);
        Checks.due("14: work() of one part", Checks.works(x, "h2:8"), 1);
        dueClue(x, 3, 0, 2, 256);
        Checks.due("14: work() of two digits", Checks.works(x, "n13;s1:20;p2:10"), 3);
        dueClue(x, 4, 4, -1, 2 + 16 + 128);
        dueClue(x, 5, 2, 1, 4 + 8 + 256);
        dueClue(x, 6, 3, 2, 2 + 8 + 128);
        AlibiDeals y = new AlibiDeals();
        Checks.due("14: work() of 60 signs", Checks.works(y, times("n1;", 19) + "n26"), 20);
        Checks.due("14: clues() then", y.clues(), 20);
        dueClue(y, 19, 4, -1, 4 + 32 + 256);
        Checks.due("14: x19", Checks.works(y, "x19"), 1);
        Checks.due("14: clues() behind x19", y.clues(), 19);
        Checks.due("14: x10", Checks.works(y, "x10"), 1);
    }

    private static void promise14Answers() {
        AlibiDeals x = new AlibiDeals();
        Checks.due("14: work() of questions", Checks.works(x, "a0:9;a0:0;a1:4;v1:4;v2:1;v2:0;!0;!26"), 8);
        dueClue(x, 0, 2, 0, 2 + 8 + 64);
        dueClue(x, 1, 3, 0, 1 + 8 + 64);
        dueClue(x, 2, 2, 1, 1 + 16 + 128);
        dueClue(x, 3, 0, 1, 16);
        dueClue(x, 4, 0, 2, 128);
        dueClue(x, 5, 3, 2, 1 + 8 + 64);
        dueClue(x, 6, 5, -1, 1 + 8 + 64);
        dueClue(x, 7, 4, -1, 4 + 32 + 256);
        Checks.due("14: untrueClues()", x.untrueClues(), 0);
        x.exchange(2, 4);
        x.dropAll();
        Checks.due("14: work() behind exchange(2, 4)", Checks.works(x, "v0:13;v1:25;a1:18;!0"), 4);
        dueClue(x, 0, 0, 0, 2);
        dueClue(x, 1, 0, 1, 4);
        dueClue(x, 2, 2, 1, 4 + 8 + 64);
        dueClue(x, 3, 5, -1, 1 + 8 + 64);
    }

    private static void promise14Refusals() {
        String[] no = {"", "h", "h0", "h0:", "s1:", "n", "x", "!", "n0;", "n0;h1", "h0:9", "n27", "x20", "?", "n0;?", "n00", ";",
            "n0;;n0", "n1;n2;", "a0:1;v"};
        for (String text : no) {
            AlibiDeals x = new AlibiDeals();
            x.noteHas(0, 1);
            Checks.type(x, text);
            Checks.dueThrows(x, "14: work() of " + text, Checks.ARGUMENT, x::work);
            Checks.due("14: savedStates()", x.savedStates(), 1);
            Checks.due("14: clues()", x.clues(), 1);
            Checks.due("14: clearBuffer() of " + text, x.clearBuffer(), text.length());
        }
        AlibiDeals x = new AlibiDeals();
        Checks.type(x, "n");
        Checks.dueThrows(x, "14: work() of n", Checks.ARGUMENT, x::work);
        x.append('2');
        Checks.due("14: work() of n2", x.work(), 1);
        dueClue(x, 0, 4, -1, 1 + 8 + 256);
    }

    private static void promise14Undo() {
        AlibiDeals x = new AlibiDeals();
        x.noteHas(0, 1);
        Checks.works(x, "x0;h1:4;h1:5;n1");
        Checks.type(x, "abc");
        Checks.due("14: savedStates()", x.savedStates(), 2);
        Checks.due("14: undo()", x.undo(), 1);
        Checks.due("14: clues() behind undo()", x.clues(), 1);
        dueClue(x, 0, 0, 0, 2);
        Checks.due("14: the buffer behind undo()", x.clearBuffer(), 3);
        Checks.due("14: work() that does nothing", Checks.works(x, "x5;n0"), 0);
        Checks.due("14: savedStates() then", x.savedStates(), 2);
        Checks.due("14: clues() then", x.clues(), 1);
        Checks.due("14: clearBuffer() then", x.clearBuffer(), 0);
    }

    private static void dueNoStop(AlibiDeals x, String where) {
        Checks.due("15: hasStopped() " + where, x.hasStopped(), false);
        Checks.dueThrows(x, "16: stoppedPart() " + where, Checks.STATE, x::stoppedPart);
        Checks.dueThrows(x, "17: whyStopped() " + where, Checks.STATE, x::whyStopped);
    }

    private static void dueStop(AlibiDeals x, String where, int part, int why) {
        Checks.due("15: hasStopped() " + where, x.hasStopped(), true);
        Checks.due("16: stoppedPart() " + where, x.stoppedPart(), part);
        Checks.due("17: whyStopped() " + where, x.whyStopped(), why);
    }

    private static void promises15To17() {
        AlibiDeals x = new AlibiDeals();
        dueNoStop(x, "of a new object");
        Checks.works(x, "n0;n1");
        dueNoStop(x, "behind works that are done");
        Checks.due("14: work() with a stop", Checks.works(x, "n2;x3;n3;n4"), 1);
        dueStop(x, "at the part 1", 1, 2);
        Checks.due("14: clues() behind the stop", x.clues(), 3);
        x.noteHas(0, 0);
        x.dropAll();
        x.exchange(0, 1);
        dueStop(x, "behind other calls", 1, 2);
        Checks.type(x, "n");
        Checks.dueThrows(x, "14: work() of n", Checks.ARGUMENT, x::work);
        dueStop(x, "behind works that throw", 1, 2);
        x.clearBuffer();
        Checks.due("14: work() with a stop at once", Checks.works(x, "x0;x0;n0"), 0);
        dueStop(x, "at the part 0", 0, 2);
        Checks.due("14: work() done", Checks.works(x, "n3"), 1);
        dueNoStop(x, "behind works without a stop");
        Checks.due("14: the last part stops", Checks.works(x, "n0;n0;x0;x0;x0;x0"), 5);
        dueStop(x, "at the last part", 5, 2);
        Checks.due("14: x of the number of clues", Checks.works(x, "n0;x1"), 1);
        dueStop(x, "at x1 with one clue", 1, 2);
    }

    private static void promises15To17Full() {
        String[] parts = {"h0:1", "l0:0", "s0:1", "p0:1", "n1", "i1", "a0:0", "a0:9", "v0:0", "v0:9", "!0", "!1"};
        AlibiDeals x = new AlibiDeals();
        Checks.works(x, times("n1;", 18) + "n1");
        for (String part : parts) {
            Checks.due("14: work() of " + part + ", the 20th and one more", Checks.works(x, part + ";" + part), 1);
            dueStop(x, "at " + part + " with 20 clues", 1, 1);
            Checks.due("14: clues() with 20", x.clues(), 20);
            x.dropClue(19);
        }
        x.noteHas(1, 1);
        Checks.due("14: x0 and two more", Checks.works(x, "x0;n5;n6"), 2);
        dueStop(x, "at the part 2", 2, 1);
        Checks.due("14: x19 twice", Checks.works(x, "x19;x19;n0"), 1);
        dueStop(x, "at the second x19", 1, 2);
        Checks.due("14: 19 clues and three parts", Checks.works(x, "n7;n8;n9"), 1);
        dueStop(x, "at n8", 1, 1);
    }

    private static void promises15To17Undo() {
        AlibiDeals x = new AlibiDeals();
        Checks.works(x, "n0;x5");
        Checks.works(x, "n1");
        dueNoStop(x, "behind n1");
        x.keep();
        x.undo();
        dueStop(x, "behind undo()", 1, 2);
        x.restore();
        dueNoStop(x, "behind restore()");
        x.undo();
        dueStop(x, "behind undo() of restore()", 1, 2);
        x.keep();
        x.undo();
        dueNoStop(x, "behind undo() of the first works");
        x.restore();
        dueStop(x, "behind restore() of the stop", 1, 2);
        Checks.due("20: clues() then", x.clues(), 1);
    }
}

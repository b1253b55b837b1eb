import java.util.function.Consumer;

/** Bounds of texts: the empty and the full buffer, the least and the greatest number of each part, the first and the last part. */
public final class TextBoundsTest {
    private static final String LETTERS = "hlspniavx!";
    private static final String DIGITS = "0123456789";

    public static void main(String[] args) {
        leastAndGreatestCode();
        emptyAndFullBuffer();
        clearOfEmptyAndFull();
        errorOfEmptyAndFull();
        errorAtTheFirstAndTheLast();
        everySignAtTheFirst();
        leastAndGreatestNumbers();
        numbersJustTooLarge();
        noLeadingZeros();
        ofAnyLength();
        eachPartAtItsBounds();
        oneAndTwentyParts();
        bufferBehindWorks();
        emptyTextIsNoWorks();
        stopAtTheFirstAndTheLast();
        reasonOfTheFirstImpossible();
        numbersMoveInATextToo();
        latestWorksOnly();
        worksAsOneCall();
        otherCallsLeaveTheBufferAndTheStop();
        Checks.end();
    }

    private static void dueError(String text, int want) {
        AlibiDeals x = new AlibiDeals();
        Checks.type(x, text);
        Checks.due("firstError() of " + text, x.firstError(), want);
    }

    private static void dueNone(String text) {
        dueError(text, text.length());
    }

    private static void dueNext(String before, String allowed) {
        for (char code = 33; code <= 126; code++) {
            dueError(before + code, before.length() + (allowed.indexOf(code) >= 0 ? 1 : 0));
        }
    }

    private static void dueStop(AlibiDeals x, String where, int part, int why) {
        Checks.due("hasStopped() of " + where, x.hasStopped(), true);
        Checks.due("stoppedPart() of " + where, x.stoppedPart(), part);
        Checks.due("whyStopped() of " + where, x.whyStopped(), why);
    }

    private static void dueNoStop(AlibiDeals x, String where) {
        Checks.due("hasStopped() of " + where, x.hasStopped(), false);
        Checks.dueThrows(x, "stoppedPart() of " + where, Checks.STATE, x::stoppedPart);
        Checks.dueThrows(x, "whyStopped() of " + where, Checks.STATE, x::whyStopped);
    }

    /** append: "the character code, 33 to 126" */
    private static void leastAndGreatestCode() {
        AlibiDeals x = new AlibiDeals();
        Checks.due("append(33)", x.append(33), 1);
        Checks.due("append(126)", x.append(126), 2);
        Checks.dueThrows(x, "append(32)", Checks.ARGUMENT, () -> x.append(32));
        Checks.dueThrows(x, "append(127)", Checks.ARGUMENT, () -> x.append(127));
        Checks.dueThrows(x, "append(-1)", Checks.ARGUMENT, () -> x.append(-1));
        Checks.dueThrows(x, "append(0)", Checks.ARGUMENT, () -> x.append(0));
        Checks.dueThrows(x, "append(256 + 33)", Checks.ARGUMENT, () -> x.append(256 + 33));
        Checks.dueThrows(x, "append(MIN)", Checks.ARGUMENT, () -> x.append(Integer.MIN_VALUE));
        Checks.dueThrows(x, "append(MAX)", Checks.ARGUMENT, () -> x.append(Integer.MAX_VALUE));
        Checks.due("clearBuffer()", x.clearBuffer(), 2);
    }

    /** "The buffer has at most 60 characters": the 60th comes, the 61st doesn't; a code that is none is told first. */
    private static void emptyAndFullBuffer() {
        AlibiDeals x = new AlibiDeals();
        for (int i = 1; i <= 60; i++) {
            Checks.due("append, the " + i + "th", x.append(66 + i), i);
        }
        Checks.dueThrows(x, "append(33), the 61st", Checks.STATE, () -> x.append(33));
        Checks.dueThrows(x, "append(126), the 61st", Checks.STATE, () -> x.append(126));
        Checks.dueThrows(x, "append(32), the 61st", Checks.ARGUMENT, () -> x.append(32));
        Checks.dueThrows(x, "append(127), the 61st", Checks.ARGUMENT, () -> x.append(127));
        Checks.due("clearBuffer() of 60", x.clearBuffer(), 60);
        Checks.due("append behind it", x.append('h'), 1);
    }

    /** clearBuffer: "Returns the length that it had." */
    private static void clearOfEmptyAndFull() {
        AlibiDeals x = new AlibiDeals();
        Checks.due("clearBuffer() of a new object", x.clearBuffer(), 0);
        x.append('?');
        Checks.due("clearBuffer() of one sign", x.clearBuffer(), 1);
        Checks.type(x, "n".repeat(59));
        Checks.due("clearBuffer() of 59", x.clearBuffer(), 59);
        Checks.type(x, "n".repeat(60));
        Checks.due("clearBuffer() of 60", x.clearBuffer(), 60);
        Checks.due("clearBuffer() again", x.clearBuffer(), 0);
        Checks.due("savedStates() behind all that", x.savedStates(), 0);
    }

    /** firstError: "the length of the buffer if there is none" */
    private static void errorOfEmptyAndFull() {
        dueError("", 0);
        dueError("n", 1);
        dueError("n0;".repeat(20), 60);
        dueError("n0;".repeat(19) + "n26", 60);
        dueError("n0;".repeat(19) + "a2:", 60);
        AlibiDeals x = new AlibiDeals();
        Checks.type(x, "?");
        Checks.due("firstError() of ?", x.firstError(), 0);
        x.clearBuffer();
        Checks.due("firstError() of an empty buffer behind that", x.firstError(), 0);
    }

    /** "the index of the first character that is a syntax error": the index 0, 59, and the first one of two. */
    private static void errorAtTheFirstAndTheLast() {
        dueError("?", 0);
        dueError("?".repeat(60), 0);
        dueError("n0;".repeat(19) + "n0h", 59);
        dueError("n0;".repeat(19) + "n27", 59);
        dueError("n0;".repeat(19) + "n0?", 59);
        dueError("n0;".repeat(18) + "n0;h3:", 58);
        dueError("n0?n0?", 2);
        dueError("n27;n28", 2);
    }

    private static void everySignAtTheFirst() {
        dueNext("", LETTERS);
        dueNext("x19;", LETTERS);
        dueNext("h2:8;", LETTERS);
        dueNext("n0;".repeat(19), LETTERS);
    }

    /** "a player, 0 to 2", "a card, 0 to 8", "a triple, 0 to 26", "a clue, 0 to 19": the least and the greatest, then ";" alone. */
    private static void leastAndGreatestNumbers() {
        for (char letter : "hlspav".toCharArray()) {
            dueNext("" + letter, "012");
            dueNext(letter + "0", ":");
            dueNext(letter + "2", ":");
        }
        for (String head : new String[] {"h0:", "h2:", "l0:", "l2:"}) {
            dueNext(head, "012345678");
            dueNext(head + "0", ";");
            dueNext(head + "8", ";");
        }
        for (String head : new String[] {"s0:", "s2:", "p0:", "p2:", "n", "i", "a0:", "a2:", "v0:", "v2:", "!"}) {
            dueNext(head, DIGITS);
            dueNext(head + "0", ";");
            dueNext(head + "1", DIGITS + ";");
            dueNext(head + "2", "0123456;");
            for (char digit = '3'; digit <= '9'; digit++) {
                dueNext(head + digit, ";");
            }
            dueNext(head + "10", ";");
            dueNext(head + "19", ";");
            dueNext(head + "20", ";");
            dueNext(head + "26", ";");
        }
        dueNext("x", DIGITS);
        dueNext("x0", ";");
        dueNext("x1", DIGITS + ";");
        for (char digit = '2'; digit <= '9'; digit++) {
            dueNext("x" + digit, ";");
        }
        dueNext("x10", ";");
        dueNext("x19", ";");
    }

    private static void numbersJustTooLarge() {
        dueNone("h2:8");
        dueError("h3:8", 1);
        dueError("h2:9", 3);
        dueNone("s2:26");
        dueError("s3:26", 1);
        dueError("s2:27", 4);
        dueNone("x19");
        dueError("x20", 2);
        dueNone("!26");
        dueError("!27", 2);
        dueError("n260", 3);
        dueError("h2:80", 4);
        dueError("x190", 3);
        dueError("h10:0", 2);
    }

    /** "Numbers have no leading zeros.": but 0 itself is a number. */
    private static void noLeadingZeros() {
        for (String head : new String[] {"h0:", "l1:", "s2:", "p0:", "n", "i", "a1:", "v2:", "!", "x"}) {
            dueNone(head + "0");
            dueError(head + "00", head.length() + 1);
            dueError(head + "01", head.length() + 1);
            dueNone(head + "0;" + head + "0");
        }
        dueError("h00:0", 2);
        dueError("a01:0", 2);
    }

    /** "if no works as a text, of any length, begin with the characters before it and this character" */
    private static void ofAnyLength() {
        for (String end : new String[] {"h", "h0", "l2:", "s", "s1", "p1:", "n", "i", "a0:", "v", "!", "x"}) {
            String full = "n10;".repeat(15).substring(0, 60 - end.length() - 1);
            String text = full.substring(0, full.lastIndexOf(';')) + ";" + end;
            dueNone(text);
        }
        dueNone("n10;".repeat(15));
        dueNone("n10;".repeat(14) + "n10;");
        dueNone("n10;".repeat(14) + "a2:2");
        dueNone("n10;".repeat(14) + "n0;x");
    }

    private static void duePart(String part, int kind, int player, int cards) {
        AlibiDeals x = new AlibiDeals();
        Checks.due("work() of " + part, Checks.works(x, part), 1);
        Checks.due("clues() of " + part, x.clues(), 1);
        Checks.due("kindOf(0) of " + part, x.kindOf(0), kind);
        Checks.due("playerOf(0) of " + part, x.playerOf(0), player);
        Checks.due("cardsOf(0) of " + part, x.cardsOf(0), cards);
        dueNoStop(x, part);
    }

    /** Each letter with the least and with the greatest numbers that it takes. */
    private static void eachPartAtItsBounds() {
        duePart("h0:0", 0, 0, 1);
        duePart("h2:8", 0, 2, 256);
        duePart("l0:0", 1, 0, 1);
        duePart("l2:8", 1, 2, 256);
        duePart("s0:0", 2, 0, 73);
        duePart("s2:26", 2, 2, 292);
        duePart("p0:0", 3, 0, 73);
        duePart("p2:26", 3, 2, 292);
        duePart("n0", 4, -1, 73);
        duePart("n26", 4, -1, 292);
        duePart("i0", 5, -1, 73);
        duePart("i26", 5, -1, 292);
        duePart("a0:0", 3, 0, 73);
        duePart("a2:26", 2, 2, 292);
        duePart("v0:0", 3, 0, 73);
        duePart("v2:26", 0, 2, 256);
        duePart("!0", 5, -1, 73);
        duePart("!26", 4, -1, 292);
        AlibiDeals x = new AlibiDeals();
        Checks.works(x, "h0:0");
        Checks.due("work() of x0", Checks.works(x, "x0"), 1);
        Checks.due("clues() behind x0", x.clues(), 0);
        Checks.works(x, "n1;".repeat(19) + "n26");
        Checks.due("work() of x19", Checks.works(x, "x19"), 1);
        Checks.due("clues() behind x19", x.clues(), 19);
        Checks.due("cardsOf(18) behind x19", x.cardsOf(18), 1 + 8 + 128);
    }

    /** "one or more parts with ';' between them": one part, and the 20 that 60 characters can hold. */
    private static void oneAndTwentyParts() {
        AlibiDeals x = new AlibiDeals();
        Checks.due("work() of one part", Checks.works(x, "n0"), 1);
        x.dropAll();
        Checks.due("work() of 20 parts", Checks.works(x, "n1;".repeat(19) + "n2"), 20);
        Checks.due("clues() of 20 parts", x.clues(), 20);
        dueNoStop(x, "20 parts");
        Checks.due("work() of 20 parts that drop", Checks.works(x, "x0;".repeat(19) + "x0"), 20);
        Checks.due("clues() behind 20 parts that drop", x.clues(), 0);
        dueNoStop(x, "20 parts that drop");
        Checks.due("work() of 60 signs", Checks.works(x, "n1;".repeat(19) + "n26"), 20);
        Checks.due("cardsOf(19) of 60 signs", x.cardsOf(19), 292);
    }

    /** work: "and clears the buffer", also when it stops and when nothing is done; "the buffer stays" when it throws. */
    private static void bufferBehindWorks() {
        AlibiDeals x = new AlibiDeals();
        Checks.works(x, "n0;n1");
        Checks.due("clearBuffer() behind works that are done", x.clearBuffer(), 0);
        Checks.works(x, "n0;x19;n1");
        Checks.due("clearBuffer() behind works that stop", x.clearBuffer(), 0);
        Checks.works(x, "x19");
        Checks.due("clearBuffer() behind works that do nothing", x.clearBuffer(), 0);
        Checks.works(x, "n0;".repeat(19) + "n26");
        Checks.due("append behind works of 60 signs", x.append('n'), 1);
        Checks.dueThrows(x, "work() of n", Checks.ARGUMENT, x::work);
        Checks.due("append behind works that throw", x.append('0'), 2);
        Checks.due("clearBuffer() then", x.clearBuffer(), 2);
        Checks.type(x, "n0;".repeat(20));
        Checks.dueThrows(x, "work() of 60 signs that are not complete", Checks.ARGUMENT, x::work);
        Checks.due("clearBuffer() of those 60 signs", x.clearBuffer(), 60);
    }

    /** "one or more parts": an empty text is none, and a part that is empty neither. */
    private static void emptyTextIsNoWorks() {
        for (String text : new String[] {"", ";", "n0;", ";n0", "n0;;n0"}) {
            AlibiDeals x = new AlibiDeals();
            Checks.type(x, text);
            Checks.dueThrows(x, "work() of " + text, Checks.ARGUMENT, x::work);
            Checks.due("savedStates() behind work() of " + text, x.savedStates(), 0);
            Checks.due("clues() behind work() of " + text, x.clues(), 0);
        }
    }

    /** stoppedPart: "Returns the number, from 0.": the least, and the greatest that 60 characters allow. */
    private static void stopAtTheFirstAndTheLast() {
        AlibiDeals x = new AlibiDeals();
        Checks.due("work() of x0 without clues", Checks.works(x, "x0"), 0);
        dueStop(x, "x0 without clues", 0, 2);
        Checks.due("work() of 19 and x19", Checks.works(x, "n1;".repeat(19) + "x19"), 19);
        dueStop(x, "19 and x19", 19, 2);
        x.dropAll();
        x.noteHas(0, 1);
        Checks.due("work() of 20 with one clue", Checks.works(x, "n1;".repeat(19) + "n26"), 19);
        dueStop(x, "20 with one clue", 19, 1);
        Checks.due("work() of one with 20 clues", Checks.works(x, "!0"), 0);
        dueStop(x, "one with 20 clues", 0, 1);
        Checks.due("clues() behind it", x.clues(), 20);
        Checks.due("work() of two with 20 clues", Checks.works(x, "x19;n2"), 2);
        dueNoStop(x, "two with 20 clues");
    }

    /** whyStopped: "1: there were 20 clues; 2: there was no such clue", of the first part that is not possible. */
    private static void reasonOfTheFirstImpossible() {
        AlibiDeals x = new AlibiDeals();
        Checks.works(x, "n1;".repeat(18) + "n1");
        Checks.due("work() of n2;n3;x19 with 19", Checks.works(x, "n2;n3;x19"), 1);
        dueStop(x, "n2;n3;x19 with 19", 1, 1);
        x.dropClue(0);
        Checks.due("work() of x19;n2;n3 with 19", Checks.works(x, "x19;n2;n3"), 0);
        dueStop(x, "x19;n2;n3 with 19", 0, 2);
        Checks.due("work() of x18;x18;n4 with 19", Checks.works(x, "x18;x18;n4"), 1);
        dueStop(x, "x18;x18;n4 with 19", 1, 2);
        Checks.due("work() of x17 with 18", Checks.works(x, "x17"), 1);
        dueNoStop(x, "x17 with 18");
        Checks.due("work() of x17 with 17", Checks.works(x, "x17"), 0);
        dueStop(x, "x17 with 17", 0, 2);
        Checks.due("clues() behind it", x.clues(), 17);
    }

    /** The number of a clue is the one it has when the part is done. */
    private static void numbersMoveInATextToo() {
        AlibiDeals x = new AlibiDeals();
        Checks.due("work() of n1;x0;x0", Checks.works(x, "n1;x0;x0"), 2);
        dueStop(x, "n1;x0;x0", 2, 2);
        Checks.due("work() of h0:0;h0:1;h0:2;x1;x1", Checks.works(x, "h0:0;h0:1;h0:2;x1;x1"), 5);
        Checks.due("clues() behind it", x.clues(), 1);
        Checks.due("cardsOf(0) behind it", x.cardsOf(0), 1);
    }

    /** hasStopped: "the latest call of work() that did not throw an exception"; "false without such a call". */
    private static void latestWorksOnly() {
        AlibiDeals x = new AlibiDeals();
        dueNoStop(x, "a new object");
        Checks.type(x, "x");
        Checks.dueThrows(x, "work() of x", Checks.ARGUMENT, x::work);
        dueNoStop(x, "works that throw");
        Checks.type(x, "4");
        x.work();
        dueStop(x, "x4", 0, 2);
        Checks.type(x, "n");
        Checks.dueThrows(x, "work() of n", Checks.ARGUMENT, x::work);
        dueStop(x, "works that throw behind a stop", 0, 2);
        x.clearBuffer();
        Checks.dueThrows(x, "work() of an empty buffer", Checks.ARGUMENT, x::work);
        dueStop(x, "an empty buffer behind a stop", 0, 2);
        Checks.works(x, "n0;n1;x2");
        dueStop(x, "n0;n1;x2", 2, 2);
        Checks.works(x, "n0");
        dueNoStop(x, "works behind a stop");
    }

    /** work: "Undoable, as one call, also if nothing is done." */
    private static void worksAsOneCall() {
        AlibiDeals x = new AlibiDeals();
        Checks.works(x, "n1;".repeat(19) + "n2");
        Checks.due("savedStates() behind 20 parts", x.savedStates(), 1);
        Checks.works(x, "n3");
        Checks.due("savedStates() behind works that do nothing", x.savedStates(), 2);
        Checks.due("undo() of works that do nothing", x.undo(), 1);
        Checks.due("clues() behind it", x.clues(), 20);
        dueNoStop(x, "20 parts, what came behind them is undone");
        Checks.due("undo() of 20 parts", x.undo(), 0);
        Checks.due("clues() behind it", x.clues(), 0);
    }

    private static void dueLeft(String call, Consumer<AlibiDeals> other) {
        for (String works : new String[] {"h0:1;x9", "h0:1;n1"}) {
            AlibiDeals x = Checks.with("n0;n2");
            x.keep();
            Checks.works(x, works);
            Checks.type(x, "~!");
            other.accept(x);
            Checks.due("hasStopped() behind " + call, x.hasStopped(), works.endsWith("x9"));
            if (works.endsWith("x9")) {
                dueStop(x, call, 1, 2);
            }
            Checks.due("firstError() behind " + call, x.firstError(), 0);
            Checks.due("append behind " + call, x.append('h'), 3);
        }
    }

    /** The latest stop is that of the latest works, whatever other call came since; and the buffer is of the texts alone. */
    private static void otherCallsLeaveTheBufferAndTheStop() {
        dueLeft("exchange", x -> x.exchange(0, 1));
        dueLeft("noteHas", x -> x.noteHas(0, 2));
        dueLeft("noteLacks", x -> x.noteLacks(0, 2));
        dueLeft("noteShows", x -> x.noteShows(0, 2, 3, 6));
        dueLeft("dropClue", x -> x.dropClue(0));
        dueLeft("dropAll", x -> x.dropAll());
        dueLeft("ask", x -> x.ask(0, 2, 3, 6));
        dueLeft("look", x -> x.look(0, 2, 3, 6));
        dueLeft("accuse", x -> x.accuse(2, 3, 6));
        dueLeft("keep", x -> x.keep());
        dueLeft("a call that is undone", x -> {
            x.dropAll();
            x.undo();
        });
        dueLeft("restore() of what was kept just now", x -> {
            x.keep();
            x.restore();
        });
        dueLeft("looks", x -> {
            x.digest();
            x.deals();
            x.savedStates();
        });
    }
}

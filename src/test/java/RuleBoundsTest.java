import java.util.StringJoiner;

/**
 * Each rule with just so many cards as it asks for, with one more and with one
 * fewer, and each way in which the rules break down: for each card, each kind
 * of cards and each player.
 */
public final class RuleBoundsTest {
    public static void main(String[] args) {
        clueOfOneCard();
        clueThatIsPassed();
        clueOfTheEnvelope();
        shownByThreeTwoAndOne();
        envelopeOfOneTwoAndThree();
        onlyTheEnvelope();
        justOneForTheEnvelope();
        oneTwoAndThreeInAHand();
        threeTwoAndOneForAHand();
        noPlaceForACard();
        noCardForTheEnvelope();
        twoCardsForTheEnvelope();
        againAndAgain();
        leastAndMostCrossedOff();
        Checks.end();
    }

    private static int triple(int number) {
        return 1 << number / 9 | 8 << number / 3 % 3 | 64 << number % 3;
    }

    /** "l" of all three players for a card: only the envelope is left for it. */
    private static String nobody(int card) {
        return "l0:" + card + ";l1:" + card + ";l2:" + card;
    }

    /** "l" of a player for each card of a mask. */
    private static String lacks(int player, int cards) {
        StringJoiner text = new StringJoiner(";");
        for (int card = 0; card < 9; card++) {
            if ((cards >> card & 1) == 1) {
                text.add("l" + player + ":" + card);
            }
        }
        return text.toString();
    }

    /** Kind 0: "all other places of the card"; kind 1: "this place of the card". */
    private static void clueOfOneCard() {
        for (int player = 0; player < 3; player++) {
            for (int card = 0; card < 9; card++) {
                String of = player + ":" + card;
                Sheets.dueSheet("h" + of, Sheets.sheet(1 << card, "" + player, "*"));
                Sheets.dueSheet("l" + of, Sheets.sheet(1 << card, Sheets.without(player), "*"));
                Sheets.dueBroken("h" + of + ";l" + of);
            }
        }
    }

    /** Kind 3: "the player for each of the three cards" */
    private static void clueThatIsPassed() {
        for (int i = 0; i < 81; i++) {
            int player = i / 27;
            int number = i % 27;
            Sheets.dueSheet("p" + player + ":" + number, Sheets.sheet(triple(number), Sheets.without(player), "*"));
        }
    }

    /** Kind 5: "all places but the envelope, for each of the three cards" */
    private static void clueOfTheEnvelope() {
        for (int number = 0; number < 27; number++) {
            Sheets.dueSheet("i" + number, Sheets.sheet(triple(number), "3", "012"));
            Sheets.dueBroken("i" + number + ";n" + number);
        }
    }

    /** Kind 2: "if just one of the three cards has the player among its places, its other places"; with none it breaks down. */
    private static void shownByThreeTwoAndOne() {
        for (int i = 0; i < 81; i++) {
            int player = i / 27;
            int number = i % 27;
            int cards = triple(number);
            String shows = "s" + player + ":" + number;
            Sheets.dueSheet(shows, Sheets.sheet(0, "", "*"));
            for (int card = 0; card < 9; card++) {
                if ((cards >> card & 1) == 1) {
                    Sheets.dueSheet(shows + ";l" + player + ":" + card, Sheets.sheet(1 << card, Sheets.without(player), "*"));
                    int others = cards & ~(1 << card);
                    String want = Sheets.sheet(others, Sheets.without(player), "*");
                    String[] sets = want.split(" ");
                    sets[card] = "" + player;
                    Sheets.dueSheet(lacks(player, others) + ";" + shows, String.join(" ", sets));
                }
            }
            Sheets.dueBroken(shows + ";" + lacks(player, cards));
            Sheets.dueBroken(shows + ";p" + player + ":" + number);
        }
    }

    private static void only(String[] sets, int card) {
        for (int i = card / 3 * 3; i < card / 3 * 3 + 3; i++) {
            sets[i] = i == card ? "3" : "012";
        }
    }

    /** Kind 4: "if two of the three cards have only the envelope, the envelope for the third one"; with three it breaks down. */
    private static void envelopeOfOneTwoAndThree() {
        for (int number = 0; number < 27; number++) {
            int[] cards = {number / 9, 3 + number / 3 % 3, 6 + number % 3};
            String not = "n" + number;
            for (int left = 0; left < 3; left++) {
                int first = cards[left == 0 ? 1 : 0];
                int second = cards[left == 2 ? 1 : 2];
                String[] sets = "* * * * * * * * *".split(" ");
                only(sets, first);
                Sheets.dueSheet(not + ";" + nobody(first), String.join(" ", sets));
                only(sets, second);
                sets[cards[left]] = "012";
                Sheets.dueSheet(not + ";" + nobody(first) + ";" + nobody(second), String.join(" ", sets));
            }
            Sheets.dueBroken(nobody(cards[0]) + ";" + nobody(cards[1]) + ";" + nobody(cards[2]) + ";" + not);
        }
    }

    /** "if a card of it has only the envelope, the envelope for the other ones", of its kind and of no other. */
    private static void onlyTheEnvelope() {
        for (int card = 0; card < 9; card++) {
            String[] sets = "* * * * * * * * *".split(" ");
            only(sets, card);
            Sheets.dueSheet(nobody(card), String.join(" ", sets));
            String two = "l0:" + card + ";l2:" + card;
            Sheets.dueSheet(two, Sheets.sheet(1 << card, "13", "*"));
        }
    }

    /** "if just one has the envelope among its places, its other places"; two may still have it. */
    private static void justOneForTheEnvelope() {
        for (int card = 0; card < 9; card++) {
            int next = card / 3 * 3 + (card + 1) % 3;
            int last = card / 3 * 3 + (card + 2) % 3;
            String[] sets = "* * * * * * * * *".split(" ");
            sets[next] = "0";
            Sheets.dueSheet("h0:" + next, String.join(" ", sets));
            sets[last] = "2";
            sets[card] = "3";
            Sheets.dueSheet("h0:" + next + ";h2:" + last, String.join(" ", sets));
        }
    }

    /** "if two cards have only this player, this player for all others"; "more than two that have only this player". */
    private static void oneTwoAndThreeInAHand() {
        for (int player = 0; player < 3; player++) {
            for (int card = 0; card < 9; card++) {
                int other = (card + 3) % 9;
                int third = (card + 6) % 9;
                String has = "h" + player + ":";
                Sheets.dueSheet(has + card, Sheets.sheet(1 << card, "" + player, "*"));
                Sheets.dueSheet(has + card + ";" + has + other,
                        Sheets.sheet(1 << card | 1 << other, "" + player, Sheets.without(player)));
                Sheets.dueBroken(has + card + ";" + has + other + ";" + has + third);
            }
        }
    }

    /** "if just two have this player among their places, their other places"; "a player fewer than two cards". */
    private static void threeTwoAndOneForAHand() {
        for (int player = 0; player < 3; player++) {
            for (int card = 0; card < 9; card++) {
                int two = 1 << card | 1 << (card + 4) % 9;
                int three = two | 1 << (card + 7) % 9;
                Sheets.dueSheet(lacks(player, 511 & ~three), Sheets.sheet(three, "*", Sheets.without(player)));
                Sheets.dueSheet(lacks(player, 511 & ~two), Sheets.sheet(two, "" + player, Sheets.without(player)));
                Sheets.dueBroken(lacks(player, 511 & ~(1 << card)));
            }
            Sheets.dueBroken(lacks(player, 511));
        }
    }

    /** "a card comes to have no place" */
    private static void noPlaceForACard() {
        for (int card = 0; card < 9; card++) {
            Sheets.dueBroken("h0:" + card + ";h1:" + card);
            Sheets.dueBroken("h1:" + card + ";h2:" + card);
            int[] among = {card, (card / 3 * 3 + 3) % 9, (card / 3 * 3 + 6) % 9};
            java.util.Arrays.sort(among);
            int number = 9 * among[0] + 3 * (among[1] - 3) + among[2] - 6;
            Sheets.dueBroken("h2:" + card + ";i" + number);
        }
    }

    /** "a kind no card with the envelope among its places" */
    private static void noCardForTheEnvelope() {
        for (int kind = 0; kind < 3; kind++) {
            int first = 3 * kind;
            Sheets.dueBroken("h0:" + first + ";h1:" + (first + 1) + ";h2:" + (first + 2));
            Sheets.dueBroken("h2:" + first + ";h0:" + (first + 1) + ";h1:" + (first + 2));
            Sheets.dueBroken("h1:" + first + ";h1:" + (first + 1) + ";h0:" + (first + 2));
        }
    }

    /** "or two that have only it" */
    private static void twoCardsForTheEnvelope() {
        for (int card = 0; card < 9; card++) {
            int other = card / 3 * 3 + (card + 1) % 3;
            Sheets.dueBroken(nobody(card) + ";" + nobody(other));
        }
        Sheets.dueBroken("i0;i9");
        Sheets.dueBroken("i0;i3");
        Sheets.dueBroken("i0;i1");
        Sheets.dueBroken("i26;i25");
    }

    /** "Places are crossed off again and again, until no rule crosses one off": chains that take many rounds. */
    private static void againAndAgain() {
        String seven = "l0:3;s1:15;s0:18;l1:6;n5;p2:2;s2:25;p2:16;s0:11;s1:23;n10";
        String six = "s0:15;s0:14;h1:8;s1:21;s2:20;s2:10;p1:19;n6;s2:20;p2:11;s0:9";
        Sheets.dueSheet(seven, "3 0 2 3 2 1 0 3 1");
        Sheets.dueSheet(six, "3 0 2 3 1 0 3 2 1");
        AlibiDeals x = Checks.with(seven);
        x.noteHas(1, 1);
        Sheets.dueSheet(x, seven + ", h1:1", "- - - - - - - - -");
        x.undo();
        x.accuse(0, 3, 7);
        Sheets.dueSheet(x, seven + ", and n1 by accuse(0, 3, 7)", "- - - - - - - - -");
        x.undo();
        Sheets.dueSheet(x, seven + ", undone", "3 0 2 3 2 1 0 3 1");
        AlibiDeals y = Checks.with("s1:22;s0:9;s1:0;p2:16;s0:1;s2:26;p0:22");
        Checks.works(y, "s0:15;s2:20;s2:9;n4;p2:15;n2");
        Sheets.dueSheet(y, "a chain of 13 clues", "0 0 3 2 1 3 1 3 2");
    }

    /** "the number of places that are crossed off by rules, of all cards; 36 if the rules break down" */
    private static void leastAndMostCrossedOff() {
        Checks.due("39: crossedOff() without clues", new AlibiDeals().crossedOff(), 0);
        Checks.due("39: crossedOff() of l0:0", Checks.with("l0:0").crossedOff(), 1);
        Checks.due("39: crossedOff() of one deal", Checks.with("i0;h0:1;h0:2;h1:4;h1:5").crossedOff(), 27);
        Checks.due("39: crossedOff() of i0;n0", Checks.with("i0;n0").crossedOff(), 36);
        Checks.due("40: hiddenCrosses() without clues", new AlibiDeals().hiddenCrosses(), 0);
        Checks.due("40: hiddenCrosses() of i0;n0", Checks.with("i0;n0").hiddenCrosses(), 0);
        Checks.due("40: hiddenCrosses() of h1:6;s1:8;s1:10", Checks.with("h1:6;s1:8;s1:10").hiddenCrosses(), 33);
        Checks.due("40: hiddenCrosses() of h1:3;s1:5", Checks.with("h1:3;s1:5").hiddenCrosses(), 5);
    }
}

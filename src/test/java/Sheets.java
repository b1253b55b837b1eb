/** Places by rules, told as nine sets with a blank between them: digits of places, "*" for all four, "-" for none. */
final class Sheets {
    private static final String ALL = "0123";

    private Sheets() {
    }

    static void dueSheet(String works, String want) {
        dueSheet(Checks.with(works), works, want);
    }

    static void dueSheet(AlibiDeals x, String works, String want) {
        String[] sets = want.split(" ");
        int crossed = 36;
        for (int card = 0; card < 9; card++) {
            String set = sets[card].equals("*") ? ALL : sets[card].equals("-") ? "" : sets[card];
            for (int place = 0; place < 4; place++) {
                boolean may = set.indexOf('0' + place) >= 0;
                Checks.due("37: mayBeByRules(" + card + ", " + place + ") of " + works, x.mayBeByRules(card, place), may);
            }
            int only = set.length() == 1 ? set.charAt(0) - '0' : -1;
            Checks.due("38: placeByRules(" + card + ") of " + works, x.placeByRules(card), only);
            crossed -= set.length();
        }
        Checks.due("36: isBroken() of " + works, x.isBroken(), crossed == 36);
        Checks.due("39: crossedOff() of " + works, x.crossedOff(), crossed);
    }

    /** The rules break down: no card has any place, and as no deal is left either, nothing more is crossed off by deals. */
    static void dueBroken(String works) {
        AlibiDeals x = Checks.with(works);
        Checks.due("36: isBroken() of " + works, x.isBroken(), true);
        dueSheet(x, works, "- - - - - - - - -");
        Checks.due("40: hiddenCrosses() of " + works, x.hiddenCrosses(), 0);
        Checks.due("30: deals() of " + works, x.deals(), 0);
    }

    /** Nine sets: this one for the cards of a mask, that one for all others. */
    static String sheet(int cards, String set, String others) {
        StringBuilder text = new StringBuilder();
        for (int card = 0; card < 9; card++) {
            text.append(card > 0 ? " " : "").append((cards >> card & 1) == 1 ? set : others);
        }
        return text.toString();
    }

    /** All four places but one. */
    static String without(int place) {
        return ALL.replace("" + place, "");
    }
}

import java.util.ArrayDeque;
import java.util.ArrayList;
import java.util.Deque;
import java.util.List;
import java.util.regex.Pattern;

/**
 * The document once more, told in another way and without regard to speed:
 * every deal is a row of places, all deals are tried, and works as a text are
 * matched by a pattern. What the class answers is compared with it.
 */
final class Model {
    private static final List<int[]> ALL_DEALS = allDeals();

    private static final String TRIPLE = "([0-9]|1[0-9]|2[0-6])";
    private static final String PART = "([hl][0-2]:[0-8]|[spav][0-2]:" + TRIPLE + "|[ni!]" + TRIPLE + "|x([0-9]|1[0-9]))";
    private static final Pattern WORKS = Pattern.compile(PART + "(;" + PART + ")*");
    /** One of these makes complete works of every beginning of works. */
    private static final String[] ENDS = {"", "0", ":0", "0:0", "n0"};

    record Clue(int kind, int player, int cards) {
        boolean agrees(int[] deal) {
            int inEnvelope = 0;
            int atPlayer = 0;
            for (int card = 0; card < 9; card++) {
                if ((cards >> card & 1) == 1) {
                    inEnvelope += deal[card] == 3 ? 1 : 0;
                    atPlayer += deal[card] == player ? 1 : 0;
                }
            }
            return switch (kind) {
                case 0, 2 -> atPlayer > 0;
                case 1, 3 -> atPlayer == 0;
                case 4 -> inEnvelope < 3;
                default -> inEnvelope == 3;
            };
        }
    }

    record State(int[] deal, List<Clue> clues, int part, int why) {
    }

    private int[] deal = {3, 0, 0, 3, 1, 1, 3, 2, 2};
    private List<Clue> clues = new ArrayList<>();
    private int part;
    private int why;
    private final StringBuilder buffer = new StringBuilder();
    private final Deque<State> saved = new ArrayDeque<>();
    private State snapshot;
    private List<int[]> left;
    private boolean[][] sheet;

    private static List<int[]> allDeals() {
        List<int[]> deals = new ArrayList<>();
        for (int code = 0; code < 1 << 18; code++) {
            int[] places = new int[9];
            int[] number = new int[4];
            int[] kinds = new int[3];
            for (int card = 0; card < 9; card++) {
                places[card] = code >> 2 * card & 3;
                number[places[card]]++;
                kinds[card / 3] += places[card] == 3 ? 1 : 0;
            }
            if (number[0] == 2 && number[1] == 2 && number[2] == 2 && kinds[0] == 1 && kinds[1] == 1 && kinds[2] == 1) {
                deals.add(places);
            }
        }
        return deals;
    }

    private State state() {
        return new State(deal.clone(), new ArrayList<>(clues), part, why);
    }

    private void set(State state) {
        deal = state.deal().clone();
        clues = new ArrayList<>(state.clues());
        part = state.part();
        why = state.why();
        forget();
    }

    private void save() {
        saved.addLast(state());
        if (saved.size() > 5) {
            saved.removeFirst();
        }
        forget();
    }

    private void forget() {
        left = null;
        sheet = null;
    }

    private static void need(boolean there) {
        if (!there) {
            throw new IndexOutOfBoundsException();
        }
    }

    private static void able(boolean can) {
        if (!can) {
            throw new IllegalStateException();
        }
    }

    private static void needCard(int card) {
        need(0 <= card && card <= 8);
    }

    private static void needPlayer(int player) {
        need(0 <= player && player <= 2);
    }

    private static void needTriple(int triple) {
        need(0 <= triple && triple <= 26);
    }

    private static void needCards(int suspect, int tool, int room) {
        need(0 <= suspect && suspect <= 2 && 3 <= tool && tool <= 5 && 6 <= room && room <= 8);
    }

    private void needClue(int clue) {
        need(0 <= clue && clue < clues.size());
    }

    private static int[] triple(int number) {
        return new int[] {number / 9, 3 + number % 9 / 3, 6 + number % 3};
    }

    private static int mask(int... cards) {
        int mask = 0;
        for (int card : cards) {
            mask |= 1 << card;
        }
        return mask;
    }

    // ---- the master's deal, clues, questions

    int exchange(int card, int other) {
        needCard(card);
        needCard(other);
        int[] then = deal.clone();
        then[card] = deal[other];
        then[other] = deal[card];
        for (int kind = 0; kind < 3; kind++) {
            int found = 0;
            for (int i = 0; i < 3; i++) {
                found += then[3 * kind + i] == 3 ? 1 : 0;
            }
            able(found == 1);
        }
        save();
        deal = then;
        return trueEnvelope();
    }

    int noteHas(int player, int card) {
        needPlayer(player);
        needCard(card);
        able(clues.size() < 20);
        save();
        clues.add(new Clue(0, player, mask(card)));
        return clues.size();
    }

    int noteLacks(int player, int card) {
        needPlayer(player);
        needCard(card);
        able(clues.size() < 20);
        save();
        clues.add(new Clue(1, player, mask(card)));
        return clues.size();
    }

    int noteShows(int player, int suspect, int tool, int room) {
        needPlayer(player);
        needCards(suspect, tool, room);
        able(clues.size() < 20);
        save();
        clues.add(new Clue(2, player, mask(suspect, tool, room)));
        return clues.size();
    }

    int dropClue(int clue) {
        needClue(clue);
        save();
        clues.remove(clue);
        return clues.size();
    }

    int dropAll() {
        save();
        int had = clues.size();
        clues.clear();
        return had;
    }

    boolean ask(int player, int suspect, int tool, int room) {
        needPlayer(player);
        needCards(suspect, tool, room);
        able(clues.size() < 20);
        save();
        return asked(player, suspect, tool, room);
    }

    private boolean asked(int player, int... cards) {
        boolean shows = false;
        for (int card : cards) {
            shows |= deal[card] == player;
        }
        clues.add(new Clue(shows ? 2 : 3, player, mask(cards)));
        return shows;
    }

    int look(int player, int suspect, int tool, int room) {
        needPlayer(player);
        needCards(suspect, tool, room);
        able(clues.size() < 20);
        save();
        return looked(player, suspect, tool, room);
    }

    private int looked(int player, int... cards) {
        for (int card : cards) {
            if (deal[card] == player) {
                clues.add(new Clue(0, player, mask(card)));
                return card;
            }
        }
        clues.add(new Clue(3, player, mask(cards)));
        return -1;
    }

    boolean accuse(int suspect, int tool, int room) {
        needCards(suspect, tool, room);
        able(clues.size() < 20);
        save();
        return accused(suspect, tool, room);
    }

    private boolean accused(int... cards) {
        boolean right = deal[cards[0]] == 3 && deal[cards[1]] == 3 && deal[cards[2]] == 3;
        clues.add(new Clue(right ? 5 : 4, -1, mask(cards)));
        return right;
    }

    // ---- texts

    int append(int code) {
        if (code < 33 || code > 126) {
            throw new IllegalArgumentException();
        }
        able(buffer.length() < 60);
        buffer.append((char) code);
        return buffer.length();
    }

    int clearBuffer() {
        int had = buffer.length();
        buffer.setLength(0);
        return had;
    }

    int firstError() {
        for (int end = 1; end <= buffer.length(); end++) {
            boolean begins = false;
            for (String rest : ENDS) {
                begins |= WORKS.matcher(buffer.substring(0, end) + rest).matches();
            }
            if (!begins) {
                return end - 1;
            }
        }
        return buffer.length();
    }

    int work() {
        if (!WORKS.matcher(buffer).matches()) {
            throw new IllegalArgumentException();
        }
        save();
        String[] parts = buffer.toString().split(";");
        buffer.setLength(0);
        why = 0;
        part = 0;
        for (int i = 0; i < parts.length; i++) {
            why = doPart(parts[i]);
            if (why != 0) {
                part = i;
                return i;
            }
        }
        return parts.length;
    }

    private int doPart(String text) {
        char letter = text.charAt(0);
        int number = Integer.parseInt(text.substring(Math.max(1, text.indexOf(':') + 1)));
        int player = text.indexOf(':') < 0 ? -1 : text.charAt(1) - '0';
        if (letter == 'x') {
            if (number >= clues.size()) {
                return 2;
            }
            clues.remove(number);
            return 0;
        }
        if (clues.size() == 20) {
            return 1;
        }
        switch (letter) {
            case 'h' -> clues.add(new Clue(0, player, mask(number)));
            case 'l' -> clues.add(new Clue(1, player, mask(number)));
            case 's' -> clues.add(new Clue(2, player, mask(triple(number))));
            case 'p' -> clues.add(new Clue(3, player, mask(triple(number))));
            case 'n' -> clues.add(new Clue(4, -1, mask(triple(number))));
            case 'i' -> clues.add(new Clue(5, -1, mask(triple(number))));
            case 'a' -> asked(player, triple(number));
            case 'v' -> looked(player, triple(number));
            default -> accused(triple(number));
        }
        return 0;
    }

    boolean hasStopped() {
        return why != 0;
    }

    int stoppedPart() {
        able(why != 0);
        return part;
    }

    int whyStopped() {
        able(why != 0);
        return why;
    }

    // ---- undo, the snapshot

    int undo() {
        able(!saved.isEmpty());
        set(saved.removeLast());
        return saved.size();
    }

    int keep() {
        snapshot = state();
        return clues.size();
    }

    int restore() {
        able(snapshot != null);
        save();
        set(snapshot);
        return clues.size();
    }

    int savedStates() {
        return saved.size();
    }

    // ---- looks

    int truePlace(int card) {
        needCard(card);
        return deal[card];
    }

    int trueEnvelope() {
        return envelopeOf(deal);
    }

    private static int envelopeOf(int[] places) {
        for (int number = 0; number < 27; number++) {
            int[] cards = triple(number);
            if (places[cards[0]] == 3 && places[cards[1]] == 3 && places[cards[2]] == 3) {
                return number;
            }
        }
        return -1;
    }

    int clues() {
        return clues.size();
    }

    int kindOf(int clue) {
        needClue(clue);
        return clues.get(clue).kind();
    }

    int playerOf(int clue) {
        needClue(clue);
        return clues.get(clue).player();
    }

    int cardsOf(int clue) {
        needClue(clue);
        return clues.get(clue).cards();
    }

    boolean isTrue(int clue) {
        needClue(clue);
        return clues.get(clue).agrees(deal);
    }

    int untrueClues() {
        return (int) clues.stream().filter(clue -> !clue.agrees(deal)).count();
    }

    // ---- deals that are left

    private static List<int[]> agreeing(List<Clue> with) {
        List<int[]> found = new ArrayList<>();
        for (int[] some : ALL_DEALS) {
            boolean agrees = true;
            for (Clue clue : with) {
                agrees = agrees && clue.agrees(some);
            }
            if (agrees) {
                found.add(some);
            }
        }
        return found;
    }

    private List<int[]> left() {
        if (left == null) {
            left = agreeing(clues);
        }
        return left;
    }

    int deals() {
        return left().size();
    }

    int dealsByHands() {
        return left().size();
    }

    int dealsWith(int card, int place) {
        needCard(card);
        need(0 <= place && place <= 3);
        int found = 0;
        for (int[] some : left()) {
            found += some[card] == place ? 1 : 0;
        }
        return found;
    }

    boolean mayBe(int card, int place) {
        return dealsWith(card, place) != 0;
    }

    int certainPlace(int card) {
        needCard(card);
        for (int place = 0; place < 4; place++) {
            if (!left().isEmpty() && dealsWith(card, place) == left().size()) {
                return place;
            }
        }
        return -1;
    }

    int certainCards() {
        int found = 0;
        for (int card = 0; card < 9; card++) {
            found += certainPlace(card) == -1 ? 0 : 1;
        }
        return found;
    }

    // ---- rules

    /** The rules as the document tells them, but the last ones first, and one look for a breakdown behind each. */
    private boolean[][] sheet() {
        if (sheet != null) {
            return sheet;
        }
        boolean[][] can = new boolean[9][];
        for (int card = 0; card < 9; card++) {
            can[card] = new boolean[] {true, true, true, true};
        }
        boolean again = true;
        while (again && !breaks(can)) {
            String before = java.util.Arrays.deepToString(can);
            for (int player = 2; player >= 0 && !breaks(can); player--) {
                forPlayer(can, player);
            }
            for (int kind = 2; kind >= 0 && !breaks(can); kind--) {
                forKind(can, kind);
            }
            for (int clue = clues.size() - 1; clue >= 0 && !breaks(can); clue--) {
                forClue(can, clues.get(clue));
            }
            again = !before.equals(java.util.Arrays.deepToString(can));
        }
        sheet = breaks(can) ? new boolean[9][4] : can;
        return sheet;
    }

    private static boolean only(boolean[] places, int place) {
        for (int other = 0; other < 4; other++) {
            if (places[other] != (other == place)) {
                return false;
            }
        }
        return true;
    }

    private static List<Integer> among(boolean[][] can, List<Integer> cards, int place) {
        return cards.stream().filter(card -> can[card][place]).toList();
    }

    private static List<Integer> sure(boolean[][] can, List<Integer> cards, int place) {
        return cards.stream().filter(card -> only(can[card], place)).toList();
    }

    private static List<Integer> ofMask(int cards) {
        List<Integer> found = new ArrayList<>();
        for (int card = 0; card < 9; card++) {
            if ((cards >> card & 1) == 1) {
                found.add(card);
            }
        }
        return found;
    }

    private static void others(boolean[][] can, int card, int place) {
        for (int other = 0; other < 4; other++) {
            can[card][other] &= other == place;
        }
    }

    private static void forPlayer(boolean[][] can, int player) {
        List<Integer> all = ofMask(511);
        List<Integer> sure = sure(can, all, player);
        if (sure.size() == 2) {
            for (int card : all) {
                can[card][player] &= sure.contains(card);
            }
        }
        List<Integer> among = among(can, all, player);
        if (among.size() == 2) {
            among.forEach(card -> others(can, card, player));
        }
    }

    private static void forKind(boolean[][] can, int kind) {
        List<Integer> cards = ofMask(7 << 3 * kind);
        List<Integer> sure = sure(can, cards, 3);
        if (!sure.isEmpty()) {
            for (int card : cards) {
                can[card][3] &= sure.contains(card);
            }
        }
        List<Integer> among = among(can, cards, 3);
        if (among.size() == 1) {
            others(can, among.get(0), 3);
        }
    }

    private static void forClue(boolean[][] can, Clue clue) {
        List<Integer> cards = ofMask(clue.cards());
        if (clue.kind() == 0) {
            others(can, cards.get(0), clue.player());
        } else if (clue.kind() == 1 || clue.kind() == 3) {
            cards.forEach(card -> can[card][clue.player()] = false);
        } else if (clue.kind() == 5) {
            cards.forEach(card -> others(can, card, 3));
        } else if (clue.kind() == 2) {
            List<Integer> among = among(can, cards, clue.player());
            if (among.size() == 1) {
                others(can, among.get(0), clue.player());
            }
        } else {
            List<Integer> sure = sure(can, cards, 3);
            if (sure.size() == 2) {
                cards.stream().filter(card -> !sure.contains(card)).forEach(card -> can[card][3] = false);
            }
        }
    }

    private boolean breaks(boolean[][] can) {
        List<Integer> all = ofMask(511);
        for (int card : all) {
            if (!can[card][0] && !can[card][1] && !can[card][2] && !can[card][3]) {
                return true;
            }
        }
        for (int kind = 0; kind < 3; kind++) {
            List<Integer> cards = ofMask(7 << 3 * kind);
            if (among(can, cards, 3).isEmpty() || sure(can, cards, 3).size() >= 2) {
                return true;
            }
        }
        for (int player = 0; player < 3; player++) {
            if (among(can, all, player).size() < 2 || sure(can, all, player).size() > 2) {
                return true;
            }
        }
        for (Clue clue : clues) {
            List<Integer> cards = ofMask(clue.cards());
            if (clue.kind() == 2 && among(can, cards, clue.player()).isEmpty()
                    || clue.kind() == 4 && sure(can, cards, 3).size() == 3) {
                return true;
            }
        }
        return false;
    }

    boolean isBroken() {
        return crossedOff() == 36;
    }

    boolean mayBeByRules(int card, int place) {
        needCard(card);
        need(0 <= place && place <= 3);
        return sheet()[card][place];
    }

    int placeByRules(int card) {
        needCard(card);
        for (int place = 0; place < 4; place++) {
            if (only(sheet()[card], place)) {
                return place;
            }
        }
        return -1;
    }

    int crossedOff() {
        int crossed = 0;
        for (boolean[] places : sheet()) {
            for (boolean place : places) {
                crossed += place ? 0 : 1;
            }
        }
        return crossed;
    }

    int hiddenCrosses() {
        int crossed = 0;
        for (int card = 0; card < 9; card++) {
            for (int place = 0; place < 4; place++) {
                crossed += sheet()[card][place] && !mayBe(card, place) ? 1 : 0;
            }
        }
        return crossed;
    }

    // ---- envelopes, what would be

    int envelopeDeals(int triple) {
        needTriple(triple);
        int found = 0;
        for (int[] some : left()) {
            found += envelopeOf(some) == triple ? 1 : 0;
        }
        return found;
    }

    private int[] envelopeCounts() {
        int[] found = new int[27];
        for (int[] some : left()) {
            found[envelopeOf(some)]++;
        }
        return found;
    }

    int envelopes() {
        int found = 0;
        for (int number : envelopeCounts()) {
            found += number > 0 ? 1 : 0;
        }
        return found;
    }

    int bestAccusation() {
        able(!left().isEmpty());
        int[] found = envelopeCounts();
        int best = 26;
        for (int triple = 25; triple >= 0; triple--) {
            best = found[triple] >= found[best] ? triple : best;
        }
        return best;
    }

    boolean isSolved() {
        return envelopes() == 1;
    }

    int dealsIfPassed(int player, int triple) {
        needPlayer(player);
        needTriple(triple);
        int[] cards = triple(triple);
        int found = 0;
        for (int[] some : left()) {
            found += some[cards[0]] != player && some[cards[1]] != player && some[cards[2]] != player ? 1 : 0;
        }
        return found;
    }

    int leftBy(int player, int triple) {
        int passed = dealsIfPassed(player, triple);
        int shown = left().size() - passed;
        return passed > shown ? passed : shown;
    }

    int bestQuestion(int player) {
        needPlayer(player);
        able(!left().isEmpty());
        int best = 26;
        for (int triple = 25; triple >= 0; triple--) {
            best = leftBy(player, triple) <= leftBy(player, best) ? triple : best;
        }
        return best;
    }

    int dealsWithout(int clue) {
        needClue(clue);
        List<Clue> others = new ArrayList<>(clues);
        others.remove(clue);
        return agreeing(others).size();
    }

    int idleClues() {
        int idle = 0;
        for (int clue = 0; clue < clues.size(); clue++) {
            idle += dealsWithout(clue) == deals() ? 1 : 0;
        }
        return idle;
    }

    double chance() {
        return deals() == 0 ? 0.0 : (double) envelopeDeals(bestAccusation()) / deals();
    }

    long digest() {
        List<Long> values = new ArrayList<>();
        add(values, trueEnvelope(), clues(), untrueClues(), deals(), dealsByHands(), certainCards(), isBroken() ? 1 : 0,
                crossedOff(), hiddenCrosses(), envelopes(), isSolved() ? 1 : 0, idleClues(), savedStates());
        if (deals() > 0) {
            add(values, bestAccusation(), bestQuestion(0), bestQuestion(1), bestQuestion(2));
        }
        for (int clue = 0; clue < clues(); clue++) {
            add(values, kindOf(clue), playerOf(clue), cardsOf(clue), isTrue(clue) ? 1 : 0, dealsWithout(clue));
        }
        for (int card = 0; card < 9; card++) {
            add(values, truePlace(card), certainPlace(card), placeByRules(card));
            for (int place = 0; place < 4; place++) {
                add(values, dealsWith(card, place), mayBeByRules(card, place) ? 1 : 0);
            }
        }
        int[] found = envelopeCounts();
        for (int triple = 0; triple < 27; triple++) {
            add(values, found[triple], leftBy(0, triple), leftBy(1, triple), leftBy(2, triple));
        }
        add(values, hasStopped() ? 1 : 0);
        if (hasStopped()) {
            add(values, stoppedPart(), whyStopped());
        }
        values.add(Double.doubleToLongBits(chance()));
        add(values, buffer.length());
        buffer.chars().forEach(code -> add(values, code));
        long hash = 4597;
        for (long value : values) {
            hash = 31 * hash + value;
        }
        return hash;
    }

    private static void add(List<Long> values, int... more) {
        for (int value : more) {
            values.add((long) value);
        }
    }
}

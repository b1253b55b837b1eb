/**
 * A parlour of nine cards, a master's deal and the clues about it.
 *
 * Sets of cards are kept as masks (bit c for the card c), and a deal as four
 * masks, one for each place, so that a clue is tested by one look at a mask.
 */
public final class AlibiDeals {
    private static final int CARDS = 9;
    private static final int KIND_CARDS = 3;
    private static final int PLAYERS = 3;
    private static final int ENVELOPE = 3;
    private static final int PLACES = 4;
    private static final int HAND_CARDS = 2;
    private static final int TRIPLES = 27;
    private static final int ALL_CARDS = 511;
    private static final int ALL_PLACES = 15;
    private static final int SUSPECTS = 7;

    private static final int HAS = 0;
    private static final int LACKS = 1;
    private static final int SHOWS = 2;
    private static final int PASSES = 3;
    private static final int OUTSIDE = 4;
    private static final int INSIDE = 5;

    private static final int MAX_CLUES = 20;
    private static final int MAX_TEXT = 60;
    private static final int MAX_SAVED = 5;

    private static final int DONE = 0;
    private static final int TOO_MANY_CLUES = 1;
    private static final int NO_SUCH_CLUE = 2;

    private static final long HASH_START = 4597L;
    private static final long HASH_FACTOR = 31L;

    private final State now = new State();
    private final State snapshot = new State();
    private final State[] saved = new State[MAX_SAVED];
    private final int[] buffer = new int[MAX_TEXT];
    private final TextReader reader = new TextReader();
    private final DealCount dealCount = new DealCount();
    private final HandCount handCount = new HandCount();
    private final RuleSheet ruleSheet = new RuleSheet();
    private int savedCount;
    private boolean hasSnapshot;
    private int length;

    public AlibiDeals() {
        now.dealAtFirst();
        for (int i = 0; i < MAX_SAVED; i++) {
            saved[i] = new State();
        }
    }

    // ---- the master's deal

    public int exchange(int card, int other) throws IndexOutOfBoundsException, IllegalStateException {
        checkCard(card);
        checkCard(other);
        if (!isTriple(exchanged(now.deal[ENVELOPE], card, other))) {
            throw new IllegalStateException("the envelope needs one card of each kind");
        }
        remember();
        for (int place = 0; place < PLACES; place++) {
            now.deal[place] = exchanged(now.deal[place], card, other);
        }
        return numberOfTriple(now.deal[ENVELOPE]);
    }

    // ---- clues

    public int noteHas(int player, int card) throws IndexOutOfBoundsException, IllegalStateException {
        checkPlayer(player);
        checkCard(card);
        checkRoomForClue();
        remember();
        now.add(HAS, player, 1 << card);
        return now.count;
    }

    public int noteLacks(int player, int card) throws IndexOutOfBoundsException, IllegalStateException {
        checkPlayer(player);
        checkCard(card);
        checkRoomForClue();
        remember();
        now.add(LACKS, player, 1 << card);
        return now.count;
    }

    public int noteShows(int player, int suspect, int tool, int room)
            throws IndexOutOfBoundsException, IllegalStateException {
        checkPlayer(player);
        checkCards(suspect, tool, room);
        checkRoomForClue();
        remember();
        now.add(SHOWS, player, mask(suspect, tool, room));
        return now.count;
    }

    public int dropClue(int clue) throws IndexOutOfBoundsException {
        checkClue(clue);
        remember();
        now.remove(clue);
        return now.count;
    }

    public int dropAll() {
        remember();
        int dropped = now.count;
        now.count = 0;
        return dropped;
    }

    // ---- questions

    public boolean ask(int player, int suspect, int tool, int room)
            throws IndexOutOfBoundsException, IllegalStateException {
        checkPlayer(player);
        checkCards(suspect, tool, room);
        checkRoomForClue();
        remember();
        return now.addAnswer(player, mask(suspect, tool, room));
    }

    public int look(int player, int suspect, int tool, int room)
            throws IndexOutOfBoundsException, IllegalStateException {
        checkPlayer(player);
        checkCards(suspect, tool, room);
        checkRoomForClue();
        remember();
        return now.addSight(player, mask(suspect, tool, room));
    }

    public boolean accuse(int suspect, int tool, int room) throws IndexOutOfBoundsException, IllegalStateException {
        checkCards(suspect, tool, room);
        checkRoomForClue();
        remember();
        return now.addVerdict(mask(suspect, tool, room));
    }

    // ---- texts

    public int append(int code) throws IllegalArgumentException, IllegalStateException {
        if (code < 33 || code > 126) {
            throw new IllegalArgumentException("the code is not 33 to 126");
        }
        if (length < 0 || length >= MAX_TEXT) {
            throw new IllegalStateException("the buffer is full");
        }
        buffer[length] = code;
        length++;
        return length;
    }

    public int clearBuffer() {
        int had = length;
        length = 0;
        return had;
    }

    public int firstError() {
        reader.begin();
        for (int i = 0; i < length && i < MAX_TEXT; i++) {
            if (!reader.take(buffer[i])) {
                return i;
            }
        }
        return length;
    }

    public int work() throws IllegalArgumentException {
        // firstError() has read the whole buffer when it finds no error, so the reader stands at its end.
        if (firstError() < length || !reader.mayEnd()) {
            throw new IllegalArgumentException("the buffer is not complete works as a text");
        }
        remember();
        int parts = 0;
        int why = DONE;
        reader.begin();
        for (int i = 0; i <= length && why == DONE; i++) {
            int code = i < length && i < MAX_TEXT ? buffer[i] : ';';
            if (code == ';') {
                why = doPart(reader.letter, reader.player, reader.number);
                parts = why == DONE ? parts + 1 : parts;
            }
            reader.take(code);
        }
        now.why = why;
        now.part = why == DONE ? 0 : parts;
        length = 0;
        return parts;
    }

    public boolean hasStopped() {
        return now.why != DONE;
    }

    public int stoppedPart() throws IllegalStateException {
        checkStopped();
        return now.part;
    }

    public int whyStopped() throws IllegalStateException {
        checkStopped();
        return now.why;
    }

    // ---- undo, the snapshot

    public int undo() throws IllegalStateException {
        if (savedCount <= 0 || savedCount > MAX_SAVED) {
            throw new IllegalStateException("no state is saved");
        }
        savedCount--;
        now.copyFrom(saved[savedCount]);
        forgetCounts();
        return savedCount;
    }

    public int keep() {
        snapshot.copyFrom(now);
        hasSnapshot = true;
        return now.count;
    }

    public int restore() throws IllegalStateException {
        if (!hasSnapshot) {
            throw new IllegalStateException("there is no snapshot");
        }
        remember();
        now.copyFrom(snapshot);
        return now.count;
    }

    public int savedStates() {
        return savedCount;
    }

    // ---- looks at the master's deal and clues; nothing is changed

    public int truePlace(int card) throws IndexOutOfBoundsException {
        checkCard(card);
        return now.placeOf(card);
    }

    public int trueEnvelope() {
        return numberOfTriple(now.deal[ENVELOPE]);
    }

    public int clues() {
        return now.count;
    }

    public int kindOf(int clue) throws IndexOutOfBoundsException {
        checkClue(clue);
        return now.kind[clue];
    }

    public int playerOf(int clue) throws IndexOutOfBoundsException {
        checkClue(clue);
        return now.place[clue] == ENVELOPE ? -1 : now.place[clue];
    }

    public int cardsOf(int clue) throws IndexOutOfBoundsException {
        checkClue(clue);
        return now.cards[clue];
    }

    public boolean isTrue(int clue) throws IndexOutOfBoundsException {
        checkClue(clue);
        return now.agrees(clue, now.deal);
    }

    public int untrueClues() {
        int untrue = 0;
        for (int clue = 0; clue < now.count; clue++) {
            untrue += now.agrees(clue, now.deal) ? 0 : 1;
        }
        return untrue;
    }

    // ---- deals that are left

    public int deals() {
        return countedDeals().total;
    }

    public int dealsByHands() {
        return countedHands().total;
    }

    public int dealsWith(int card, int place) throws IndexOutOfBoundsException {
        checkCard(card);
        checkPlace(place);
        return countedDeals().withCardAt(card, place);
    }

    public boolean mayBe(int card, int place) throws IndexOutOfBoundsException {
        checkCard(card);
        checkPlace(place);
        return countedDeals().withCardAt(card, place) > 0;
    }

    public int certainPlace(int card) throws IndexOutOfBoundsException {
        checkCard(card);
        return countedDeals().surePlace(card);
    }

    public int certainCards() {
        return countedDeals().sureCards();
    }

    // ---- rules

    public boolean isBroken() {
        return filledSheet().broken;
    }

    public boolean mayBeByRules(int card, int place) throws IndexOutOfBoundsException {
        checkCard(card);
        checkPlace(place);
        return filledSheet().has(card, place);
    }

    public int placeByRules(int card) throws IndexOutOfBoundsException {
        checkCard(card);
        return filledSheet().onlyPlace(card);
    }

    public int crossedOff() {
        return CARDS * PLACES - filledSheet().placesLeft();
    }

    public int hiddenCrosses() {
        return filledSheet().placesLeft() - countedDeals().placesLeft();
    }

    // ---- envelopes

    public int envelopeDeals(int triple) throws IndexOutOfBoundsException {
        checkTriple(triple);
        return countedDeals().withEnvelope(triple);
    }

    public int envelopes() {
        return countedDeals().envelopesLeft();
    }

    public int bestAccusation() throws IllegalStateException {
        DealCount left = countedDeals();
        checkSome(left.total);
        return left.likeliestEnvelope();
    }

    public boolean isSolved() {
        return countedDeals().envelopesLeft() == 1;
    }

    // ---- what would be; nothing is changed

    public int dealsIfPassed(int player, int triple) throws IndexOutOfBoundsException {
        checkPlayer(player);
        checkTriple(triple);
        return countedDeals().withNone(player, triple);
    }

    public int leftBy(int player, int triple) throws IndexOutOfBoundsException {
        checkPlayer(player);
        checkTriple(triple);
        return countedDeals().behindQuestion(player, triple);
    }

    public int bestQuestion(int player) throws IndexOutOfBoundsException, IllegalStateException {
        checkPlayer(player);
        DealCount left = countedDeals();
        checkSome(left.total);
        return left.sharpestQuestion(player);
    }

    public int dealsWithout(int clue) throws IndexOutOfBoundsException {
        checkClue(clue);
        return countedDeals().withoutClue(clue);
    }

    public int idleClues() {
        return countedDeals().idleAmong(now.count);
    }

    public double chance() {
        return countedDeals().shareOfLikeliest();
    }

    public long digest() {
        DealCount left = countedDeals();
        RuleSheet sheet = filledSheet();
        long hash = mixCounts(HASH_START, left, sheet);
        hash = mixBest(hash, left);
        hash = mixClues(hash, left);
        hash = mixCards(hash, left, sheet);
        hash = mixTriples(hash, left);
        hash = mixStop(hash);
        hash = mix(hash, bitsOfShare(left.shareOfLikeliest()));
        return mixBuffer(hash);
    }

    // ---- parts of the digest: what is counted comes along, so that few calls stand open at once

    private static long mix(long hash, long value) {
        return HASH_FACTOR * hash + value;
    }

    private static long mixFlag(long hash, boolean value) {
        return mix(hash, value ? 1L : 0L);
    }

    private long mixCounts(long start, DealCount left, RuleSheet sheet) {
        long hash = mix(start, trueEnvelope());
        hash = mix(hash, clues());
        hash = mix(hash, untrueClues());
        hash = mix(hash, left.total);
        hash = mix(hash, countedHands().total);
        hash = mix(hash, left.sureCards());
        hash = mixFlag(hash, sheet.broken);
        hash = mix(hash, CARDS * PLACES - sheet.placesLeft());
        hash = mix(hash, sheet.placesLeft() - left.placesLeft());
        hash = mix(hash, left.envelopesLeft());
        hash = mixFlag(hash, left.envelopesLeft() == 1);
        hash = mix(hash, left.idleAmong(now.count));
        return mix(hash, savedStates());
    }

    private static long mixBest(long start, DealCount left) {
        if (left.total <= 0) {
            return start;
        }
        long hash = mix(start, left.likeliestEnvelope());
        for (int player = 0; player < PLAYERS; player++) {
            hash = mix(hash, left.sharpestQuestion(player));
        }
        return hash;
    }

    private long mixClues(long start, DealCount left) {
        long hash = start;
        for (int clue = 0; clue < now.count; clue++) {
            hash = mix(hash, kindOf(clue));
            hash = mix(hash, playerOf(clue));
            hash = mix(hash, cardsOf(clue));
            hash = mixFlag(hash, isTrue(clue));
            hash = mix(hash, left.withoutClue(clue));
        }
        return hash;
    }

    private long mixCards(long start, DealCount left, RuleSheet sheet) {
        long hash = start;
        for (int card = 0; card < CARDS; card++) {
            hash = mix(hash, truePlace(card));
            hash = mix(hash, left.surePlace(card));
            hash = mix(hash, sheet.onlyPlace(card));
            for (int place = 0; place < PLACES; place++) {
                hash = mix(hash, left.withCardAt(card, place));
                hash = mixFlag(hash, sheet.has(card, place));
            }
        }
        return hash;
    }

    private static long mixTriples(long start, DealCount left) {
        long hash = start;
        for (int triple = 0; triple < TRIPLES; triple++) {
            hash = mix(hash, left.withEnvelope(triple));
            for (int player = 0; player < PLAYERS; player++) {
                hash = mix(hash, left.behindQuestion(player, triple));
            }
        }
        return hash;
    }

    private long mixStop(long start) {
        long hash = mixFlag(start, hasStopped());
        if (hasStopped()) {
            hash = mix(hash, stoppedPart());
            hash = mix(hash, whyStopped());
        }
        return hash;
    }

    private long mixBuffer(long start) {
        long hash = mix(start, length);
        for (int i = 0; i < length && i < MAX_TEXT; i++) {
            hash = mix(hash, buffer[i]);
        }
        return hash;
    }

    /**
     * Makes the bits of a double from 0 to 1 by hand, as the library that the
     * program may use has no call for them. Doubling is exact, so no bit is lost.
     */
    private static long bitsOfShare(double share) {
        if (share <= 0.0) {
            return 0L;
        }
        double scaled = share;
        long exponent = 1023L;
        for (int i = 0; i < 1000 && scaled < 1.0; i++) {
            scaled = scaled * 2.0;
            exponent--;
        }
        long fraction = (long) ((scaled - 1.0) * 4503599627370496.0);
        return (exponent << 52) | fraction;
    }

    // ---- parts of a text

    private int doPart(int letter, int player, int number) {
        if (letter == 'x') {
            if (number < 0 || number >= now.count) {
                return NO_SUCH_CLUE;
            }
            now.remove(number);
            return DONE;
        }
        if (now.count >= MAX_CLUES) {
            return TOO_MANY_CLUES;
        }
        addPart(letter, player, number);
        return DONE;
    }

    private void addPart(int letter, int player, int number) {
        switch (letter) {
            case 'h':
                now.add(HAS, player, 1 << number);
                break;
            case 'l':
                now.add(LACKS, player, 1 << number);
                break;
            case 's':
                now.add(SHOWS, player, cardsOfTriple(number));
                break;
            case 'p':
                now.add(PASSES, player, cardsOfTriple(number));
                break;
            case 'n':
                now.add(OUTSIDE, ENVELOPE, cardsOfTriple(number));
                break;
            case 'i':
                now.add(INSIDE, ENVELOPE, cardsOfTriple(number));
                break;
            case 'a':
                now.addAnswer(player, cardsOfTriple(number));
                break;
            case 'v':
                now.addSight(player, cardsOfTriple(number));
                break;
            default:
                now.addVerdict(cardsOfTriple(number));
                break;
        }
    }

    // ---- saved states and what is counted anew

    /** Every change of the clues but that of undo() comes behind this call, so it also makes the counts stale. */
    private void remember() {
        if (savedCount >= MAX_SAVED) {
            dropOldest();
        }
        if (savedCount >= 0 && savedCount < MAX_SAVED) {
            State row = saved[savedCount];
            if (row != null) {
                row.copyFrom(now);
                savedCount++;
            }
        }
        forgetCounts();
    }

    /** The row of the oldest state is used again for the next one, so that undo makes no new objects. */
    private void dropOldest() {
        State oldest = saved[0];
        for (int i = 1; i < MAX_SAVED; i++) {
            saved[i - 1] = saved[i];
        }
        saved[MAX_SAVED - 1] = oldest;
        savedCount = MAX_SAVED - 1;
    }

    private void forgetCounts() {
        dealCount.fresh = false;
        handCount.fresh = false;
        ruleSheet.fresh = false;
    }

    private DealCount countedDeals() {
        if (!dealCount.fresh) {
            dealCount.count(now);
        }
        return dealCount;
    }

    private RuleSheet filledSheet() {
        if (!ruleSheet.fresh) {
            ruleSheet.fill(now);
        }
        return ruleSheet;
    }

    private HandCount countedHands() {
        if (!handCount.fresh) {
            handCount.count(now);
        }
        return handCount;
    }

    // ---- what a call refuses

    private static void checkCard(int card) {
        if (card < 0 || card >= CARDS) {
            throw new IndexOutOfBoundsException("there is no such card");
        }
    }

    private static void checkPlayer(int player) {
        if (player < 0 || player >= PLAYERS) {
            throw new IndexOutOfBoundsException("there is no such player");
        }
    }

    private static void checkPlace(int place) {
        if (place < 0 || place >= PLACES) {
            throw new IndexOutOfBoundsException("there is no such place");
        }
    }

    private static void checkTriple(int triple) {
        if (triple < 0 || triple >= TRIPLES) {
            throw new IndexOutOfBoundsException("there is no such triple");
        }
    }

    private static void checkCards(int suspect, int tool, int room) {
        if (suspect < 0 || suspect >= KIND_CARDS) {
            throw new IndexOutOfBoundsException("there is no such suspect");
        }
        if (tool < KIND_CARDS || tool >= 2 * KIND_CARDS) {
            throw new IndexOutOfBoundsException("there is no such tool");
        }
        if (room < 2 * KIND_CARDS || room >= CARDS) {
            throw new IndexOutOfBoundsException("there is no such room");
        }
    }

    private void checkClue(int clue) {
        if (clue < 0 || clue >= now.count || clue >= MAX_CLUES) {
            throw new IndexOutOfBoundsException("there is no such clue");
        }
    }

    private void checkRoomForClue() {
        if (now.count >= MAX_CLUES) {
            throw new IllegalStateException("there are 20 clues");
        }
    }

    private void checkStopped() {
        if (now.why == DONE) {
            throw new IllegalStateException("the latest work did not stop");
        }
    }

    private static void checkSome(int dealsLeft) {
        if (dealsLeft <= 0) {
            throw new IllegalStateException("no deal is left");
        }
    }

    // ---- cards as masks

    private static int mask(int suspect, int tool, int room) {
        return (1 << suspect) | (1 << tool) | (1 << room);
    }

    private static int cardsOfKind(int kind) {
        return SUSPECTS << (KIND_CARDS * kind);
    }

    private static int cardsOfTriple(int triple) {
        return mask(triple / 9, KIND_CARDS + triple / 3 % 3, 2 * KIND_CARDS + triple % 3);
    }

    private static int numberOfTriple(int cards) {
        int number = 0;
        for (int card = 0; card < CARDS; card++) {
            if ((cards & (1 << card)) != 0) {
                number = 3 * number + card % 3;
            }
        }
        return number;
    }

    private static boolean isTriple(int cards) {
        boolean oneOfEach = true;
        for (int kind = 0; kind < KIND_CARDS; kind++) {
            oneOfEach = oneOfEach && Integer.bitCount(cards & cardsOfKind(kind)) == 1;
        }
        return oneOfEach;
    }

    /** If just one of the two cards is in the mask, the other one comes in its stead. */
    private static int exchanged(int cards, int card, int other) {
        boolean hasCard = (cards & (1 << card)) != 0;
        boolean hasOther = (cards & (1 << other)) != 0;
        return hasCard == hasOther ? cards : cards ^ (1 << card) ^ (1 << other);
    }

    /** What undo and the snapshot bring back: the master's deal, the clues and the latest stop. */
    private static final class State {
        final int[] deal = new int[PLACES];
        final int[] kind = new int[MAX_CLUES];
        /** The player of a clue; ENVELOPE for the kinds OUTSIDE and INSIDE. */
        final int[] place = new int[MAX_CLUES];
        final int[] cards = new int[MAX_CLUES];
        int count;
        int part;
        int why;

        void dealAtFirst() {
            deal[0] = (1 << 1) | (1 << 2);
            deal[1] = (1 << 4) | (1 << 5);
            deal[2] = (1 << 7) | (1 << 8);
            deal[ENVELOPE] = (1 << 0) | (1 << 3) | (1 << 6);
        }

        void copyFrom(State other) {
            if (other == null) {
                return;
            }
            for (int i = 0; i < PLACES; i++) {
                deal[i] = other.deal[i];
            }
            for (int i = 0; i < MAX_CLUES; i++) {
                kind[i] = other.kind[i];
                place[i] = other.place[i];
                cards[i] = other.cards[i];
            }
            count = other.count;
            part = other.part;
            why = other.why;
        }

        void add(int newKind, int newPlace, int newCards) {
            if (count >= 0 && count < MAX_CLUES) {
                kind[count] = newKind;
                place[count] = newPlace;
                cards[count] = newCards;
                count++;
            }
        }

        void remove(int clue) {
            if (clue < 0 || clue >= count) {
                return;
            }
            for (int i = clue + 1; i < count && i < MAX_CLUES; i++) {
                kind[i - 1] = kind[i];
                place[i - 1] = place[i];
                cards[i - 1] = cards[i];
            }
            count--;
        }

        boolean addAnswer(int player, int asked) {
            boolean shows = handOf(player, asked) != 0;
            add(shows ? SHOWS : PASSES, player, asked);
            return shows;
        }

        int addSight(int player, int asked) {
            int seen = handOf(player, asked);
            for (int card = 0; card < CARDS; card++) {
                if ((seen & (1 << card)) != 0) {
                    add(HAS, player, 1 << card);
                    return card;
                }
            }
            add(PASSES, player, asked);
            return -1;
        }

        boolean addVerdict(int accused) {
            boolean right = deal[ENVELOPE] == accused;
            add(right ? INSIDE : OUTSIDE, ENVELOPE, accused);
            return right;
        }

        private int handOf(int player, int asked) {
            return player >= 0 && player < PLAYERS ? deal[player] & asked : 0;
        }

        int placeOf(int card) {
            for (int i = 0; i < PLACES; i++) {
                if ((deal[i] & (1 << card)) != 0) {
                    return i;
                }
            }
            return -1;
        }

        boolean agrees(int clue, int[] some) {
            if (clue < 0 || clue >= MAX_CLUES || place[clue] < 0 || place[clue] >= some.length) {
                return true;
            }
            int there = some[place[clue]] & cards[clue];
            switch (kind[clue]) {
                case HAS:
                case SHOWS:
                    return there != 0;
                case LACKS:
                case PASSES:
                    return there == 0;
                case OUTSIDE:
                    return there != cards[clue];
                default:
                    return there == cards[clue];
            }
        }

        boolean agreesWithAll(int[] some) {
            for (int clue = 0; clue < count; clue++) {
                if (!agrees(clue, some)) {
                    return false;
                }
            }
            return true;
        }
    }

    /** Deals all cards out card by card, and counts in one pass all that is asked about the deals that are left. */
    private static final class DealCount {
        private static final int HANDS = ALL_CARDS + 1;

        int total;
        boolean fresh;
        private final int[] cardAt = new int[CARDS * PLACES];
        private final int[] inEnvelope = new int[TRIPLES];
        private final int[] withHand = new int[PLAYERS * HANDS];
        /** For each clue the deals with which it alone does not agree: they would be left without it. */
        private final int[] hinderedBy = new int[MAX_CLUES];
        private final int[] some = new int[PLACES];

        void count(State state) {
            total = 0;
            clear(cardAt);
            clear(inEnvelope);
            clear(withHand);
            clear(hinderedBy);
            clear(some);
            dealFrom(0, 0, this, state);
            fresh = true;
        }

        private static void clear(int[] row) {
            for (int i = 0; i < row.length; i++) {
                row[i] = 0;
            }
        }

        /** Cards come in the order of their kinds, so the envelope's triple grows by its parts from the left. */
        private static void dealFrom(int card, int triple, DealCount count, State state) {
            if (card < 0 || card >= CARDS) {
                count.judge(triple, state);
                return;
            }
            for (int place = 0; place < PLACES; place++) {
                if (count.hasRoom(card, place)) {
                    count.some[place] |= 1 << card;
                    int then = place == ENVELOPE ? KIND_CARDS * triple + card % KIND_CARDS : triple;
                    dealFrom(card + 1, then, count, state);
                    count.some[place] &= ~(1 << card);
                }
            }
        }

        /** The last card of a kind is the envelope's if no other one is: without that, hands fill up in vain. */
        private boolean hasRoom(int card, int place) {
            boolean envelopeLacks = (some[ENVELOPE] & cardsOfKind(card / KIND_CARDS)) == 0;
            if (place == ENVELOPE) {
                return envelopeLacks;
            }
            boolean isLast = card % KIND_CARDS == KIND_CARDS - 1;
            return !(isLast && envelopeLacks)
                    && place >= 0 && place < PLAYERS && Integer.bitCount(some[place]) < HAND_CARDS;
        }

        private void judge(int triple, State state) {
            int against = 0;
            int last = 0;
            for (int clue = 0; clue < state.count && against < 2; clue++) {
                if (!state.agrees(clue, some)) {
                    against++;
                    last = clue;
                }
            }
            if (against == 0) {
                include(triple);
            } else if (against == 1 && last < MAX_CLUES) {
                hinderedBy[last]++;
            }
        }

        private void include(int triple) {
            total++;
            for (int card = 0; card < CARDS; card++) {
                for (int place = 0; place < PLACES; place++) {
                    cardAt[card * PLACES + place] += (some[place] >> card) & 1;
                }
            }
            if (triple >= 0 && triple < TRIPLES) {
                inEnvelope[triple]++;
            }
            for (int player = 0; player < PLAYERS; player++) {
                withHand[player * HANDS + (some[player] & ALL_CARDS)]++;
            }
        }

        int withCardAt(int card, int place) {
            boolean there = card >= 0 && card < CARDS && place >= 0 && place < PLACES;
            return there ? cardAt[card * PLACES + place] : 0;
        }

        int surePlace(int card) {
            for (int place = 0; place < PLACES; place++) {
                if (total > 0 && withCardAt(card, place) == total) {
                    return place;
                }
            }
            return -1;
        }

        int sureCards() {
            int sure = 0;
            for (int card = 0; card < CARDS; card++) {
                sure += surePlace(card) >= 0 ? 1 : 0;
            }
            return sure;
        }

        int placesLeft() {
            int left = 0;
            for (int i = 0; i < cardAt.length; i++) {
                left += cardAt[i] > 0 ? 1 : 0;
            }
            return left;
        }

        int withEnvelope(int triple) {
            return triple >= 0 && triple < TRIPLES ? inEnvelope[triple] : 0;
        }

        int envelopesLeft() {
            int left = 0;
            for (int triple = 0; triple < TRIPLES; triple++) {
                left += inEnvelope[triple] > 0 ? 1 : 0;
            }
            return left;
        }

        int likeliestEnvelope() {
            int best = 0;
            for (int triple = 1; triple < TRIPLES; triple++) {
                best = withEnvelope(triple) > withEnvelope(best) ? triple : best;
            }
            return best;
        }

        double shareOfLikeliest() {
            return total <= 0 ? 0.0 : (double) withEnvelope(likeliestEnvelope()) / (double) total;
        }

        int withNone(int player, int triple) {
            if (player < 0 || player >= PLAYERS) {
                return 0;
            }
            int cards = cardsOfTriple(triple);
            int found = 0;
            for (int first = 0; first < CARDS; first++) {
                for (int second = first + 1; second < CARDS; second++) {
                    int hand = (1 << first) | (1 << second);
                    found += (hand & cards) == 0 ? withHand[player * HANDS + hand] : 0;
                }
            }
            return found;
        }

        int behindQuestion(int player, int triple) {
            int passed = withNone(player, triple);
            return Math.max(passed, total - passed);
        }

        int sharpestQuestion(int player) {
            int best = 0;
            int least = behindQuestion(player, 0);
            for (int triple = 1; triple < TRIPLES; triple++) {
                int left = behindQuestion(player, triple);
                if (left < least) {
                    least = left;
                    best = triple;
                }
            }
            return best;
        }

        int withoutClue(int clue) {
            return clue >= 0 && clue < MAX_CLUES ? total + hinderedBy[clue] : total;
        }

        int idleAmong(int clues) {
            int idle = 0;
            for (int clue = 0; clue < clues; clue++) {
                idle += withoutClue(clue) == total ? 1 : 0;
            }
            return idle;
        }
    }

    /** Counts the deals that are left in another way: the envelope first, then one hand behind the other. */
    private static final class HandCount {
        int total;
        boolean fresh;
        private final int[] some = new int[PLACES];

        void count(State state) {
            total = 0;
            for (int triple = 0; triple < TRIPLES; triple++) {
                some[ENVELOPE] = cardsOfTriple(triple);
                total += countHands(0, ALL_CARDS & ~some[ENVELOPE], this, state);
            }
            fresh = true;
        }

        /** The last player gets what is free then: there is no choice any more. */
        private static int countHands(int player, int free, HandCount count, State state) {
            if (player < 0 || player >= PLAYERS) {
                return 0;
            }
            if (player == PLAYERS - 1) {
                count.some[player] = free;
                return state.agreesWithAll(count.some) ? 1 : 0;
            }
            int found = 0;
            for (int first = 0; first < CARDS; first++) {
                for (int second = first + 1; second < CARDS; second++) {
                    int hand = (1 << first) | (1 << second);
                    if ((free & hand) == hand) {
                        count.some[player] = hand;
                        found += countHands(player + 1, free & ~hand, count, state);
                    }
                }
            }
            return found;
        }
    }

    /**
     * The places of each card by rules. A place that is crossed off never comes
     * back, and what breaks the rules down stays so whatever is crossed off
     * behind it; so the order of the rules is free, and one look for a
     * breakdown at the end is enough.
     */
    private static final class RuleSheet {
        boolean broken;
        boolean fresh;
        private final int[] places = new int[CARDS];

        void fill(State state) {
            setAll(ALL_PLACES);
            int left = CARDS * PLACES;
            int before = left + 1;
            for (int round = 0; round <= CARDS * PLACES && left < before; round++) {
                before = left;
                applyClues(state);
                applyKinds();
                applyPlayers();
                left = placesLeft();
            }
            broken = breaksDown() || breaksClue(state);
            if (broken) {
                setAll(0);
            }
            fresh = true;
        }

        private void setAll(int some) {
            for (int card = 0; card < CARDS; card++) {
                places[card] = some;
            }
        }

        int placesLeft() {
            int left = 0;
            for (int card = 0; card < CARDS; card++) {
                left += Integer.bitCount(places[card]);
            }
            return left;
        }

        boolean has(int card, int place) {
            return card >= 0 && card < CARDS && (places[card] & (1 << place)) != 0;
        }

        int onlyPlace(int card) {
            for (int place = 0; place < PLACES; place++) {
                if (card >= 0 && card < CARDS && places[card] == (1 << place)) {
                    return place;
                }
            }
            return -1;
        }

        private void applyClues(State state) {
            for (int clue = 0; clue < state.count && clue < MAX_CLUES; clue++) {
                applyClue(state.kind[clue], state.place[clue], state.cards[clue]);
            }
        }

        private void applyClue(int kind, int place, int cards) {
            switch (kind) {
                case HAS:
                case INSIDE:
                    keepOnly(cards, place);
                    break;
                case LACKS:
                case PASSES:
                    crossOff(cards, place);
                    break;
                case SHOWS:
                    keepIfJust(1, cards, place);
                    break;
                default:
                    crossIfSure(2, cards, place);
                    break;
            }
        }

        private void applyKinds() {
            for (int kind = 0; kind < KIND_CARDS; kind++) {
                crossIfSure(1, cardsOfKind(kind), ENVELOPE);
                keepIfJust(1, cardsOfKind(kind), ENVELOPE);
            }
        }

        private void applyPlayers() {
            for (int player = 0; player < PLAYERS; player++) {
                crossIfSure(HAND_CARDS, ALL_CARDS, player);
                keepIfJust(HAND_CARDS, ALL_CARDS, player);
            }
        }

        /** If so many of the cards have only this place, the other cards don't get it. */
        private void crossIfSure(int number, int cards, int place) {
            int sure = withOnly(cards, place);
            if (Integer.bitCount(sure) == number) {
                crossOff(cards & ~sure, place);
            }
        }

        /** If just so many of the cards have this place among theirs, these cards are there. */
        private void keepIfJust(int number, int cards, int place) {
            int possible = withPlace(cards, place);
            if (Integer.bitCount(possible) == number) {
                keepOnly(possible, place);
            }
        }

        private void keepOnly(int cards, int place) {
            for (int card = 0; card < CARDS; card++) {
                if ((cards & (1 << card)) != 0) {
                    places[card] &= 1 << place;
                }
            }
        }

        private void crossOff(int cards, int place) {
            for (int card = 0; card < CARDS; card++) {
                if ((cards & (1 << card)) != 0) {
                    places[card] &= ~(1 << place);
                }
            }
        }

        private int withPlace(int cards, int place) {
            int found = 0;
            for (int card = 0; card < CARDS; card++) {
                if ((cards & (1 << card)) != 0 && (places[card] & (1 << place)) != 0) {
                    found |= 1 << card;
                }
            }
            return found;
        }

        private int withOnly(int cards, int place) {
            int found = 0;
            for (int card = 0; card < CARDS; card++) {
                if ((cards & (1 << card)) != 0 && places[card] == (1 << place)) {
                    found |= 1 << card;
                }
            }
            return found;
        }

        private boolean breaksDown() {
            boolean breaks = false;
            for (int card = 0; card < CARDS; card++) {
                breaks = breaks || places[card] == 0;
            }
            for (int kind = 0; kind < KIND_CARDS; kind++) {
                breaks = breaks || !fits(1, cardsOfKind(kind), ENVELOPE);
            }
            for (int player = 0; player < PLAYERS; player++) {
                breaks = breaks || !fits(HAND_CARDS, ALL_CARDS, player);
            }
            return breaks;
        }

        /** So many of the cards can come to the place, and no more than so many must. */
        private boolean fits(int number, int cards, int place) {
            return Integer.bitCount(withPlace(cards, place)) >= number
                    && Integer.bitCount(withOnly(cards, place)) <= number;
        }

        private boolean breaksClue(State state) {
            boolean breaks = false;
            for (int clue = 0; clue < state.count && clue < MAX_CLUES; clue++) {
                int cards = state.cards[clue];
                int place = state.place[clue];
                breaks = breaks
                        || state.kind[clue] == SHOWS && withPlace(cards, place) == 0
                        || state.kind[clue] == OUTSIDE && withOnly(cards, place) == cards;
            }
            return breaks;
        }
    }

    /** Reads works as a text sign by sign; it refuses a sign with which no works can go on. */
    private static final class TextReader {
        private static final int AT_LETTER = 0;
        private static final int AT_PLAYER = 1;
        private static final int AT_COLON = 2;
        private static final int AT_NUMBER = 3;
        private static final int IN_NUMBER = 4;

        int letter;
        int player;
        int number;
        private int step;

        void begin() {
            step = AT_LETTER;
        }

        boolean mayEnd() {
            return step == IN_NUMBER;
        }

        boolean take(int code) {
            switch (step) {
                case AT_LETTER:
                    return takeLetter(code);
                case AT_PLAYER:
                    return takePlayer(code);
                case AT_COLON:
                    step = AT_NUMBER;
                    return code == ':';
                case AT_NUMBER:
                    return takeFirstDigit(code);
                default:
                    return takeMore(code);
            }
        }

        private boolean takeLetter(int code) {
            letter = code;
            step = namesPlayer(code) ? AT_PLAYER : AT_NUMBER;
            return limitOf(code) > 0;
        }

        private boolean takePlayer(int code) {
            player = code - '0';
            step = AT_COLON;
            return player >= 0 && player < PLAYERS;
        }

        private boolean takeFirstDigit(int code) {
            number = code - '0';
            step = IN_NUMBER;
            return isDigit(code) && number < limitOf(letter);
        }

        private boolean takeMore(int code) {
            if (code == ';') {
                step = AT_LETTER;
                return true;
            }
            if (!isDigit(code) || number == 0) {
                return false;
            }
            number = 10 * number + code - '0';
            return number < limitOf(letter);
        }

        private static boolean isDigit(int code) {
            return code >= '0' && code <= '9';
        }

        private static boolean namesPlayer(int code) {
            return code == 'h' || code == 'l' || code == 's' || code == 'p' || code == 'a' || code == 'v';
        }

        /** How many numbers may stand at the end of a part with this letter; 0 if no part begins so. */
        private static int limitOf(int code) {
            switch (code) {
                case 'h':
                case 'l':
                    return CARDS;
                case 's':
                case 'p':
                case 'n':
                case 'i':
                case 'a':
                case 'v':
                case '!':
                    return TRIPLES;
                case 'x':
                    return MAX_CLUES;
                default:
                    return 0;
            }
        }
    }
}

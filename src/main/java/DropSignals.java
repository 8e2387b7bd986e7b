import java.util.Arrays;

/** An evening of trick-taking partners who signal by the order in which they drop small cards. */
public final class DropSignals {
    /** There is no such result. */
    public static final int NONE = -1;

    private static final int CARDS = 32;
    private static final int PLAYERS = 4;
    private static final int SIDES = 2;
    private static final int SUITS = 4;
    private static final int RANKS = 8;
    /** Ranks below this one are small. */
    private static final int SMALL_RANKS = 4;
    /** As the suit of a bid: no trumps. */
    private static final int NO_TRUMPS = 4;
    private static final int LEVELS = 4;
    private static final int TRICKS_BESIDE_LEVEL = 4;
    /** The most cards that a player may have for the search with open cards. */
    private static final int OPEN_HAND = 3;
    /** More tricks than there are in a deal. */
    private static final int TOO_MANY = 9;

    private static final int NO_DEAL = 0;
    private static final int BIDDING = 1;
    private static final int IN_PLAY = 2;
    private static final int OVER = 3;

    private static final int NO_SIGNAL = 0;
    private static final int ODD = 1;
    private static final int EVEN = 2;

    private static final int NOT_HELD = 1;
    private static final int MUST_FOLLOW = 2;

    private static final int TEXT_LIMIT = 120;
    private static final int REMEMBERED_LIMIT = 14;
    private static final int SLOTS = 2;
    private static final int SCRIPT_LIMIT = 4;
    private static final int GROUP = 10000;
    private static final int TURN_LIMIT = 200;

    private final Evening now = new Evening();
    /** Scripts and simulations work on this one, so that no call makes objects. */
    private final Evening copy = new Evening();
    private final Memory memory = new Memory();
    private final Slots slots = new Slots();
    private final Writing writing = new Writing();
    private final OpenCards openCards = new OpenCards();

    public DropSignals() {
    }

    // ---- text

    public int append(int c) throws IllegalArgumentException, IllegalStateException {
        if (c < 0 || c > 255) {
            throw new IllegalArgumentException("no such character");
        }
        if (writing.length() >= TEXT_LIMIT) {
            throw new IllegalStateException("the text is full");
        }
        return writing.add(c);
    }

    public int clearText() {
        return writing.clear();
    }

    public int errorPosition() {
        return writing.firstError();
    }

    public int load() throws IllegalStateException {
        if (writing.firstError() != NONE) {
            throw new IllegalStateException("the text is not an evening");
        }
        now.clear();
        memory.forget();
        slots.empty();
        int leftOut = 0;
        for (int i = 1; i < writing.length(); i++) {
            if (writing.isLetter(i) && !writing.isDone(now, i)) {
                leftOut++;
            }
        }
        return leftOut;
    }

    // ---- what there is

    public int about(int what) throws IllegalArgumentException {
        checkWhat(what, 11);
        return now.number(what);
    }

    public int cardOf(int c, int what) throws IndexOutOfBoundsException, IllegalArgumentException {
        checkPlace(c, CARDS);
        checkWhat(what, 2);
        switch (what) {
            case 0:
                return now.cards.holder(c);
            case 1:
                return now.cards.dealtTo(c);
            default:
                return now.cards.playedAt(c);
        }
    }

    public int suitOf(int p, int s, int what) throws IndexOutOfBoundsException, IllegalArgumentException {
        checkPlace(p, PLAYERS);
        checkPlace(s, SUITS);
        checkWhat(what, 5);
        switch (what) {
            case 0:
                return now.cards.held(p, s);
            case 1:
                return now.cards.dealt(p, s);
            case 2:
                return now.drops.count(p, s);
            case 3:
                return now.drops.signal(p, s);
            case 4:
                return now.truth(p, s);
            default:
                return now.drops.showedNone(p, s) ? 1 : 0;
        }
    }

    public int trick(int k) throws IndexOutOfBoundsException {
        checkPlace(k, PLAYERS);
        return now.cards.inTrick(k);
    }

    // ---- actions

    public int deal(long seed) {
        memory.remember(now);
        now.dealWith(seed);
        return now.deals;
    }

    public int bid(int level, int suit) throws IllegalArgumentException, IllegalStateException {
        if (!isBid(level, suit)) {
            throw new IllegalArgumentException("no such bid");
        }
        if (!now.mayBid(level, suit)) {
            throw new IllegalStateException("no bidding, or the bid is too low");
        }
        memory.remember(now);
        now.makeBid(level, suit);
        return now.turn;
    }

    public int pass() throws IllegalStateException {
        if (now.phase != BIDDING) {
            throw new IllegalStateException("no bidding");
        }
        memory.remember(now);
        now.makePass();
        return now.phase;
    }

    public int play(int c) throws IndexOutOfBoundsException, IllegalStateException {
        checkPlace(c, CARDS);
        checkInPlay();
        memory.remember(now);
        int reason = now.reasonAgainst(c);
        if (reason == 0) {
            now.layDown(c);
        } else {
            now.refused++;
        }
        return reason;
    }

    public int undo() throws IllegalStateException {
        if (memory.count() == 0) {
            throw new IllegalStateException("no state is remembered");
        }
        return memory.takeBack(now);
    }

    // ---- what would be; these and all following methods up to the save slots change nothing

    public int legal(int k) throws IndexOutOfBoundsException {
        checkPlace(k, RANKS);
        return now.playable(k);
    }

    public int advice() {
        return now.advised();
    }

    public int mayHave(int viewer, int p, int s, boolean reads)
            throws IndexOutOfBoundsException, IllegalArgumentException, IllegalStateException {
        checkPlace(viewer, PLAYERS);
        checkPlace(p, PLAYERS);
        checkPlace(s, SUITS);
        if (viewer == p) {
            throw new IllegalArgumentException("nobody looks on at the own cards");
        }
        checkInPlay();
        return now.possible(viewer, p, s, reads);
    }

    public int most(int way) throws IllegalArgumentException, IllegalStateException {
        checkWhat(way, 1);
        checkFewCards();
        openCards.take(now, way == 1);
        return openCards.mostTricks();
    }

    public int bestCard() throws IllegalStateException {
        checkFewCards();
        openCards.take(now, true);
        return openCards.lowestBest();
    }

    // ---- scripts, simulations

    public int runScript(int n, long script) throws IllegalArgumentException {
        if (n < 1 || n > SCRIPT_LIMIT || script < 0 || withoutGroups(script, n) != 0) {
            throw new IllegalArgumentException("no such script");
        }
        copy.copyFrom(now);
        for (int i = 0; i < n; i++) {
            int group = (int) (withoutGroups(script, n - 1 - i) % GROUP);
            if (!Scripts.succeeds(copy, group)) {
                return i;
            }
        }
        return NONE;
    }

    public int simulate(long seed, int m) throws IllegalArgumentException {
        if (m < 1 || m > TURN_LIMIT) {
            throw new IllegalArgumentException("no such number of turns");
        }
        copy.copyFrom(now);
        long x = seed;
        for (int i = 0; i < m; i++) {
            x = following(x);
            Scripts.doTurn(copy, upperBits(x));
        }
        return 10000 * (copy.signals - now.signals)
                + 100 * (copy.trueSignals - now.trueSignals)
                + (copy.deals - now.deals);
    }

    // ---- save slots

    public int save(int slot) throws IndexOutOfBoundsException {
        checkPlace(slot, SLOTS);
        slots.store(slot, now);
        return now.deals;
    }

    public int restore(int slot) throws IndexOutOfBoundsException, IllegalStateException {
        checkPlace(slot, SLOTS);
        if (!slots.isUsed(slot)) {
            throw new IllegalStateException("nothing was saved");
        }
        slots.fetch(slot, now);
        memory.forget();
        return now.deals;
    }

    // ---- checks

    private static void checkPlace(int place, int size) {
        if (place < 0 || place >= size) {
            throw new IndexOutOfBoundsException("no such place");
        }
    }

    private static void checkWhat(int what, int greatest) {
        if (what < 0 || what > greatest) {
            throw new IllegalArgumentException("no such number");
        }
    }

    private void checkInPlay() {
        if (now.phase != IN_PLAY) {
            throw new IllegalStateException("no play");
        }
    }

    private void checkFewCards() {
        if (now.phase != IN_PLAY || now.cards.largestHand() > OPEN_HAND) {
            throw new IllegalStateException("no play, or too many cards");
        }
    }

    // ---- small helpers

    private static int at(int[] row, int place) {
        return place >= 0 && place < row.length ? row[place] : NONE;
    }

    private static void put(int[] row, int place, int value) {
        if (place >= 0 && place < row.length) {
            row[place] = value;
        }
    }

    private static void addAt(int[] row, int place, int more) {
        if (place >= 0 && place < row.length) {
            row[place] += more;
        }
    }

    private static void copyRow(int[] from, int[] to) {
        System.arraycopy(from, 0, to, 0, Math.min(from.length, to.length));
    }

    private static long following(long x) {
        return x * 6364136223846793005L + 1442695040888963407L;
    }

    /** These are 31 bits, so the number is never negative. */
    private static int upperBits(long x) {
        return (int) (x >>> 33);
    }

    private static long withoutGroups(long script, int groups) {
        long rest = script;
        for (int i = 0; i < groups; i++) {
            rest /= GROUP;
        }
        return rest;
    }

    private static boolean isBid(int level, int suit) {
        return level >= 1 && level <= LEVELS && suit >= 0 && suit <= NO_TRUMPS;
    }

    private static boolean isSmall(int c) {
        return c >= 0 && c % RANKS < SMALL_RANKS;
    }

    private static int nextPlayer(int p) {
        return (p + 1) % PLAYERS;
    }

    private static boolean beats(int c, int best, int trumps) {
        int suit = c / RANKS;
        return suit == best / RANKS ? c > best : suit == trumps;
    }

    /** Which of the four cards from a place of the row on wins, from 0 for the one that was led. */
    private static int winningPlace(int[] row, int from, int trumps) {
        int winning = 0;
        for (int i = 1; i < PLAYERS; i++) {
            if (beats(at(row, from + i), at(row, from + winning), trumps)) {
                winning = i;
            }
        }
        return winning;
    }

    /** Where the cards of one deal are. */
    private static final class Cards {
        private final int[] owners = new int[CARDS];
        private final int[] times = new int[CARDS];
        private final int[] order = new int[CARDS];
        private int laid;

        Cards() {
            clear();
        }

        void clear() {
            Arrays.fill(owners, NONE);
            Arrays.fill(times, NONE);
            Arrays.fill(order, NONE);
            laid = 0;
        }

        void copyFrom(Cards other) {
            copyRow(other.owners, owners);
            copyRow(other.times, times);
            copyRow(other.order, order);
            laid = other.laid;
        }

        void shuffle(long seed) {
            // Before a deal nothing is laid, so the row of cards may lie where the order will be kept.
            for (int c = 0; c < CARDS; c++) {
                put(order, c, c);
            }
            long x = seed;
            for (int k = CARDS - 1; k > 0; k--) {
                x = following(x);
                int other = upperBits(x) % (k + 1);
                int c = at(order, k);
                put(order, k, at(order, other));
                put(order, other, c);
            }
            for (int i = 0; i < CARDS; i++) {
                put(owners, at(order, i), i % PLAYERS);
            }
            Arrays.fill(times, NONE);
            Arrays.fill(order, NONE);
            laid = 0;
        }

        void lay(int c) {
            put(order, laid, c);
            put(times, c, laid);
            laid++;
        }

        int dealtTo(int c) {
            return c >= 0 && c < owners.length ? owners[c] : NONE;
        }

        int playedAt(int c) {
            return at(times, c);
        }

        int holder(int c) {
            return c >= 0 && c < owners.length && c < times.length && times[c] == NONE ? owners[c] : NONE;
        }

        int trickSize() {
            return laid % PLAYERS;
        }

        int inTrick(int k) {
            return k >= 0 && k < trickSize() ? at(order, laid - trickSize() + k) : NONE;
        }

        int ledSuit() {
            int size = laid % PLAYERS;
            return size == 0 ? NONE : at(order, laid - size) / RANKS;
        }

        int dealt(int p, int s) {
            int sum = 0;
            for (int r = 0; r < RANKS; r++) {
                if (dealtTo(s * RANKS + r) == p) {
                    sum++;
                }
            }
            return sum;
        }

        int held(int p, int s) {
            int sum = 0;
            for (int r = 0; r < RANKS; r++) {
                if (holder(s * RANKS + r) == p) {
                    sum++;
                }
            }
            return sum;
        }

        int handSize(int p) {
            int sum = 0;
            for (int c = 0; c < CARDS; c++) {
                if (holder(c) == p) {
                    sum++;
                }
            }
            return sum;
        }

        int largestHand() {
            int largest = 0;
            for (int p = 0; p < PLAYERS; p++) {
                largest = Math.max(largest, handSize(p));
            }
            return largest;
        }

        /** The cards of a suit that are neither played nor the viewer's own. */
        int unseen(int viewer, int s) {
            int sum = 0;
            for (int p = 0; p < PLAYERS; p++) {
                if (p != viewer) {
                    sum += held(p, s);
                }
            }
            return sum;
        }
    }

    /** What the players told in one deal, for each player and suit. */
    private static final class Drops {
        private final int[] counts = new int[PLAYERS * SUITS];
        private final int[] firsts = new int[PLAYERS * SUITS];
        private final int[] signals = new int[PLAYERS * SUITS];
        private final int[] nones = new int[PLAYERS * SUITS];

        Drops() {
            clear();
        }

        void clear() {
            Arrays.fill(counts, 0);
            Arrays.fill(firsts, NONE);
            Arrays.fill(signals, NO_SIGNAL);
            Arrays.fill(nones, 0);
        }

        void copyFrom(Drops other) {
            copyRow(other.counts, counts);
            copyRow(other.firsts, firsts);
            copyRow(other.signals, signals);
            copyRow(other.nones, nones);
        }

        private static int place(int p, int s) {
            return p * SUITS + s;
        }

        int count(int p, int s) {
            return at(counts, place(p, s));
        }

        int first(int p, int s) {
            return at(firsts, place(p, s));
        }

        int signal(int p, int s) {
            return at(signals, place(p, s));
        }

        boolean showedNone(int p, int s) {
            return at(nones, place(p, s)) == 1;
        }

        void showNone(int p, int s) {
            put(nones, place(p, s), 1);
        }

        /** Returns the signal that this drop completes, if it does. */
        int add(int p, int s, int c) {
            int place = place(p, s);
            addAt(counts, place, 1);
            int count = at(counts, place);
            if (count == 1) {
                put(firsts, place, c);
            }
            if (count != 2) {
                return NO_SIGNAL;
            }
            int signal = told(at(firsts, place), c);
            put(signals, place, signal);
            return signal;
        }

        static int told(int first, int second) {
            return first > second ? EVEN : ODD;
        }

        static int truthFor(int dealt) {
            return dealt % 2 == 0 ? EVEN : ODD;
        }
    }

    /** The state: the evening with its present deal. */
    private static final class Evening {
        private final Cards cards = new Cards();
        private final Drops drops = new Drops();
        private final int[] tricks = new int[SIDES];
        private final int[] scores = new int[SIDES];
        private int deals;
        private int phase;
        private int turn;
        private int level;
        private int suit;
        private int bidder;
        private int passes;
        private int signals;
        private int trueSignals;
        private int refused;

        Evening() {
            clear();
        }

        void clear() {
            cards.clear();
            clearDeal();
            Arrays.fill(scores, 0);
            deals = 0;
            phase = NO_DEAL;
            turn = NONE;
            signals = 0;
            trueSignals = 0;
            refused = 0;
        }

        private void clearDeal() {
            drops.clear();
            Arrays.fill(tricks, 0);
            level = 0;
            suit = 0;
            bidder = NONE;
            passes = 0;
        }

        void copyFrom(Evening other) {
            cards.copyFrom(other.cards);
            drops.copyFrom(other.drops);
            copyRow(other.tricks, tricks);
            copyRow(other.scores, scores);
            deals = other.deals;
            phase = other.phase;
            turn = other.turn;
            level = other.level;
            suit = other.suit;
            bidder = other.bidder;
            passes = other.passes;
            signals = other.signals;
            trueSignals = other.trueSignals;
            refused = other.refused;
        }

        int number(int what) {
            switch (what) {
                case 0:
                    return deals;
                case 1:
                    return phase;
                case 2:
                    return turn;
                case 3:
                    return 10 * level + suit;
                case 4:
                    return phase == BIDDING ? NONE : bidder;
                case 5:
                case 6:
                    return at(tricks, what - 5);
                case 7:
                case 8:
                    return at(scores, what - 7);
                case 9:
                    return signals;
                case 10:
                    return trueSignals;
                default:
                    return refused;
            }
        }

        int truth(int p, int s) {
            int signal = drops.signal(p, s);
            if (signal == NO_SIGNAL) {
                return NONE;
            }
            return signal == Drops.truthFor(cards.dealt(p, s)) ? 1 : 0;
        }

        void dealWith(long seed) {
            clearDeal();
            cards.shuffle(seed);
            phase = BIDDING;
            turn = deals % PLAYERS;
            deals++;
        }

        boolean mayBid(int newLevel, int newSuit) {
            return phase == BIDDING && isBid(newLevel, newSuit)
                    && 5 * newLevel + newSuit > 5 * level + suit;
        }

        void makeBid(int newLevel, int newSuit) {
            level = newLevel;
            suit = newSuit;
            bidder = turn;
            passes = 0;
            turn = nextPlayer(turn);
        }

        void makePass() {
            passes++;
            turn = nextPlayer(turn);
            if (bidder == NONE && passes == PLAYERS) {
                phase = OVER;
                turn = NONE;
            } else if (bidder != NONE && passes == PLAYERS - 1) {
                phase = IN_PLAY;
                turn = nextPlayer(bidder);
            }
        }

        /** The suit that the player whose turn it is has to follow, if there is one. */
        private int suitToFollow() {
            int led = cards.ledSuit();
            return led != NONE && cards.held(turn, led) > 0 ? led : NONE;
        }

        int reasonAgainst(int c) {
            if (cards.holder(c) != turn) {
                return NOT_HELD;
            }
            int follow = suitToFollow();
            return follow != NONE && c / RANKS != follow ? MUST_FOLLOW : 0;
        }

        int playableCount() {
            if (phase != IN_PLAY) {
                return 0;
            }
            int follow = suitToFollow();
            return follow == NONE ? cards.handSize(turn) : cards.held(turn, follow);
        }

        int playable(int k) {
            if (phase != IN_PLAY) {
                return NONE;
            }
            int follow = suitToFollow();
            int before = 0;
            for (int c = 0; c < CARDS; c++) {
                if (cards.holder(c) == turn && (follow == NONE || c / RANKS == follow)) {
                    if (before == k) {
                        return c;
                    }
                    before++;
                }
            }
            return NONE;
        }

        int advised() {
            if (phase != IN_PLAY) {
                return NONE;
            }
            int follow = suitToFollow();
            int c = NONE;
            if (follow != NONE && drops.count(turn, follow) == 0) {
                c = firstSignalCard(follow);
            } else if (follow != NONE && drops.count(turn, follow) == 1) {
                c = secondSignalCard(follow);
            }
            return c != NONE ? c : lowestPlayable(follow);
        }

        private int firstSignalCard(int s) {
            int lowest = NONE;
            int highest = NONE;
            for (int c = s * RANKS; c < s * RANKS + SMALL_RANKS; c++) {
                if (cards.holder(c) == turn) {
                    lowest = lowest == NONE ? c : lowest;
                    highest = c;
                }
            }
            if (lowest == highest) {
                return NONE;
            }
            return cards.dealt(turn, s) % 2 == 0 ? highest : lowest;
        }

        private int secondSignalCard(int s) {
            int truth = Drops.truthFor(cards.dealt(turn, s));
            for (int c = s * RANKS; c < s * RANKS + SMALL_RANKS; c++) {
                if (cards.holder(c) == turn && Drops.told(drops.first(turn, s), c) == truth) {
                    return c;
                }
            }
            return NONE;
        }

        private int lowestPlayable(int follow) {
            int lowest = NONE;
            for (int c = 0; c < CARDS; c++) {
                boolean fits = cards.holder(c) == turn && (follow == NONE || c / RANKS == follow);
                if (fits && (lowest == NONE || c % RANKS < lowest % RANKS)) {
                    lowest = c;
                }
            }
            return lowest;
        }

        /** The card has to be one that can be played. */
        void layDown(int c) {
            int led = cards.ledSuit();
            cards.lay(c);
            if (led != NONE) {
                noteBehindLead(led, c);
            }
            if (cards.trickSize() == 0) {
                endTrick();
            } else {
                turn = nextPlayer(turn);
            }
        }

        private void noteBehindLead(int led, int c) {
            if (c / RANKS != led) {
                drops.showNone(turn, led);
            } else if (isSmall(c)) {
                countSignal(drops.add(turn, led, c), Drops.truthFor(cards.dealt(turn, led)));
            }
        }

        private void countSignal(int signal, int truth) {
            if (signal != NO_SIGNAL) {
                signals++;
                trueSignals += signal == truth ? 1 : 0;
            }
        }

        private void endTrick() {
            int leader = nextPlayer(turn);
            int winner = (leader + winningPlace(cards.order, cards.laid - PLAYERS, suit)) % PLAYERS;
            addAt(tricks, winner % SIDES, 1);
            turn = winner;
            if (cards.laid == CARDS) {
                phase = OVER;
                turn = NONE;
                addScore();
            }
        }

        private void addScore() {
            int side = bidder % SIDES;
            int due = TRICKS_BESIDE_LEVEL + level;
            int won = at(tricks, side);
            if (won >= due) {
                addAt(scores, side, 10 * level + 2 * (won - due));
            } else {
                addAt(scores, 1 - side, 10 * (due - won));
            }
        }

        /** The set of numbers of cards of a suit that the player may have for the viewer. */
        int possible(int viewer, int p, int s, boolean reads) {
            int unseen = cards.unseen(viewer, s);
            int room = 0;
            for (int q = 0; q < PLAYERS; q++) {
                if (q != viewer && q != p && !drops.showedNone(q, s)) {
                    room += cards.handSize(q);
                }
            }
            int greatest = drops.showedNone(p, s) ? 0 : Math.min(cards.handSize(p), unseen);
            int told = reads ? drops.signal(p, s) : NO_SIGNAL;
            int gone = cards.dealt(p, s) - cards.held(p, s);
            int set = 0;
            for (int n = 0; n <= RANKS && n <= greatest; n++) {
                boolean agrees = told == NO_SIGNAL || told == Drops.truthFor(n + gone);
                if (unseen - n <= room && agrees) {
                    set |= 1 << n;
                }
            }
            return set;
        }
    }

    /** The states before the latest actions, in a ring. */
    private static final class Memory {
        private final Evening[] states = new Evening[REMEMBERED_LIMIT];
        private int next;
        private int count;

        Memory() {
            for (int i = 0; i < states.length; i++) {
                states[i] = new Evening();
            }
        }

        int count() {
            return count;
        }

        void forget() {
            count = 0;
        }

        void remember(Evening state) {
            store(next, state);
            next = (next + 1) % REMEMBERED_LIMIT;
            count = Math.min(count + 1, REMEMBERED_LIMIT);
        }

        private void store(int place, Evening state) {
            if (place >= 0 && place < states.length && states[place] != null) {
                states[place].copyFrom(state);
            }
        }

        /** Tells how many states are left. */
        int takeBack(Evening state) {
            next = (next + REMEMBERED_LIMIT - 1) % REMEMBERED_LIMIT;
            count--;
            if (next >= 0 && next < states.length && states[next] != null) {
                state.copyFrom(states[next]);
            }
            return count;
        }
    }

    /** The save slots. */
    private static final class Slots {
        private final Evening[] states = new Evening[SLOTS];
        private final boolean[] used = new boolean[SLOTS];

        Slots() {
            for (int i = 0; i < states.length; i++) {
                states[i] = new Evening();
            }
        }

        void empty() {
            for (int i = 0; i < used.length; i++) {
                used[i] = false;
            }
        }

        boolean isUsed(int slot) {
            return slot >= 0 && slot < used.length && used[slot];
        }

        void store(int slot, Evening state) {
            if (slot >= 0 && slot < states.length && slot < used.length && states[slot] != null) {
                states[slot].copyFrom(state);
                used[slot] = true;
            }
        }

        void fetch(int slot, Evening state) {
            if (slot >= 0 && slot < states.length && states[slot] != null) {
                state.copyFrom(states[slot]);
            }
        }
    }

    /** The text buffer, and the evening that its text tells. */
    private static final class Writing {
        private final int[] signs = new int[TEXT_LIMIT];
        private int length;

        int length() {
            return length;
        }

        int add(int c) {
            put(signs, length, c);
            length++;
            return length;
        }

        int clear() {
            int before = length;
            length = 0;
            return before;
        }

        int firstError() {
            if (length == 0 || at(signs, 0) != 'V') {
                return 0;
            }
            int start = 0;
            int due = 0;
            for (int i = 1; i < length; i++) {
                if (due > 0) {
                    if (!isDigitAllowed(start, i)) {
                        return i;
                    }
                    due--;
                } else {
                    start = i;
                    due = digitsBehind(at(signs, i));
                    if (due == NONE) {
                        return i;
                    }
                }
            }
            return due == 0 ? NONE : length;
        }

        /** How many digits stand behind the letter of a command; NONE if there is no such command. */
        private static int digitsBehind(int letter) {
            switch (letter) {
                case 'd':
                case 'b':
                case 'c':
                    return 2;
                case 'p':
                case 'a':
                    return 0;
                default:
                    return NONE;
            }
        }

        private boolean isDigitAllowed(int start, int i) {
            boolean first = i == start + 1;
            switch (at(signs, start)) {
                case 'd':
                    return isBetween(i, '0', '9');
                case 'b':
                    return first ? isBetween(i, '1', '4') : isBetween(i, '0', '4');
                case 'c':
                    if (first) {
                        return isBetween(i, '0', '3');
                    }
                    return isBetween(i, '0', at(signs, i - 1) == '3' ? '1' : '9');
                default:
                    return false;
            }
        }

        private boolean isBetween(int i, int lowest, int highest) {
            return at(signs, i) >= lowest && at(signs, i) <= highest;
        }

        boolean isLetter(int i) {
            return digitsBehind(at(signs, i)) != NONE;
        }

        /** Does the command that begins at a place of a text without an error, if it can be done. */
        boolean isDone(Evening evening, int start) {
            int high = at(signs, start + 1) - '0';
            int low = at(signs, start + 2) - '0';
            switch (at(signs, start)) {
                case 'd':
                    evening.dealWith(10 * high + low);
                    return true;
                case 'b':
                    return Scripts.tryBid(evening, high, low);
                case 'p':
                    return Scripts.tryPass(evening);
                case 'c':
                    return Scripts.tryCard(evening, 10 * high + low);
                default:
                    Scripts.tryAdvices(evening, 1);
                    return true;
            }
        }
    }

    /** Commands that do something to an evening, or tell that it cannot be done. */
    private static final class Scripts {
        static boolean tryBid(Evening evening, int level, int suit) {
            if (!evening.mayBid(level, suit)) {
                return false;
            }
            evening.makeBid(level, suit);
            return true;
        }

        static boolean tryPass(Evening evening) {
            if (evening.phase != BIDDING) {
                return false;
            }
            evening.makePass();
            return true;
        }

        static boolean tryCard(Evening evening, int c) {
            if (evening.phase != IN_PLAY || c < 0 || c >= CARDS || evening.reasonAgainst(c) != 0) {
                return false;
            }
            evening.layDown(c);
            return true;
        }

        /** Plays the advised card so many times; an advised card can always be played. */
        static boolean tryAdvices(Evening evening, int times) {
            for (int i = 0; i < times; i++) {
                int c = evening.advised();
                if (c == NONE) {
                    return false;
                }
                evening.layDown(c);
            }
            return true;
        }

        /** Does one group of a script. */
        static boolean succeeds(Evening evening, int group) {
            int d2 = group / 100 % 10;
            int d3 = group / 10 % 10;
            int d4 = group % 10;
            int two = group % 100;
            switch (group / 1000) {
                case 1:
                    return d2 == 0 && tryDeal(evening, two);
                case 2:
                    return d4 == 0 && tryBid(evening, d2, d3);
                case 3:
                    return d2 == 0 && two == 0 && tryPass(evening);
                case 4:
                    return d2 == 0 && tryCard(evening, two);
                case 5:
                    return d2 == 0 && d3 == 0 && tryAdvices(evening, d4);
                case 6:
                    return d2 == 0 && d3 == 0 && evening.turn == d4;
                case 7:
                    return d3 == 0 && d2 < SIDES && at(evening.tricks, d2) >= d4;
                case 8:
                    return d2 < PLAYERS && d3 < SUITS && evening.drops.signal(d2, d3) == d4;
                case 9:
                    return d2 < PLAYERS && two < CARDS && evening.cards.holder(two) == d2;
                default:
                    return false;
            }
        }

        private static boolean tryDeal(Evening evening, int seed) {
            evening.dealWith(seed);
            return true;
        }

        /** Does one turn of a simulation; what cannot be done is left out. */
        static void doTurn(Evening evening, int r) {
            int q = r / 16;
            if (evening.phase == BIDDING) {
                if (r % 16 < 6) {
                    tryBid(evening, 1 + q % 4, q / 4 % 5);
                } else {
                    tryPass(evening);
                }
            } else if (evening.phase == IN_PLAY) {
                int count = evening.playableCount();
                if (r % 16 < 8 && count > 0) {
                    tryCard(evening, evening.playable(q % count));
                } else {
                    tryAdvices(evening, 1);
                }
            } else {
                evening.dealWith(q);
            }
        }
    }

    /** The search for the most tricks when all cards are open. */
    private static final class OpenCards {
        private final int[] hands = new int[PLAYERS * OPEN_HAND];
        /** The trick that is being played, and behind it the cards that are tried. */
        private final int[] row = new int[PLAYERS * OPEN_HAND];
        private int placed;
        private int total;
        private int leader;
        private int side;
        private int trumps;
        private boolean cuts;

        /** The evening has to be in play, with few cards. */
        void take(Evening evening, boolean withCuts) {
            Arrays.fill(hands, NONE);
            Arrays.fill(row, NONE);
            placed = evening.cards.trickSize();
            total = placed;
            for (int i = 0; i < placed; i++) {
                put(row, i, evening.cards.inTrick(i));
            }
            for (int p = 0; p < PLAYERS; p++) {
                total += takeHand(evening.cards, p);
            }
            leader = (evening.turn + PLAYERS - placed) % PLAYERS;
            side = evening.turn % SIDES;
            trumps = evening.suit;
            cuts = withCuts;
        }

        /** By rising numbers; tells how many cards. */
        private int takeHand(Cards cards, int p) {
            int count = 0;
            for (int c = 0; c < CARDS; c++) {
                if (count < OPEN_HAND && cards.holder(c) == p) {
                    put(hands, p * OPEN_HAND + count, c);
                    count++;
                }
            }
            return count;
        }

        int mostTricks() {
            return tricksFrom(placed, leader, NONE, TOO_MANY);
        }

        int lowestBest() {
            int player = (leader + placed) % PLAYERS;
            int follow = suitToFollow(player, placed);
            int best = NONE;
            int bestOne = NONE;
            for (int k = 0; k < OPEN_HAND; k++) {
                int c = at(hands, player * OPEN_HAND + k);
                if (fits(c, follow)) {
                    int won = tricksWith(player * OPEN_HAND + k, placed, leader, best, TOO_MANY);
                    if (won > best) {
                        best = won;
                        bestOne = c;
                    }
                }
            }
            return bestOne;
        }

        private static boolean fits(int c, int follow) {
            return c != NONE && (follow == NONE || c / RANKS == follow);
        }

        private int suitToFollow(int player, int depth) {
            int inTrick = depth % PLAYERS;
            if (inTrick == 0) {
                return NONE;
            }
            int led = at(row, depth - inTrick) / RANKS;
            for (int k = 0; k < OPEN_HAND; k++) {
                if (fits(at(hands, player * OPEN_HAND + k), led)) {
                    return led;
                }
            }
            return NONE;
        }

        /** The tricks that the side wins from here on; only those between low and high have to be told exactly. */
        private int tricksFrom(int depth, int lead, int low, int high) {
            if (depth >= total || depth >= row.length) {
                return 0;
            }
            int player = (lead + depth % PLAYERS) % PLAYERS;
            int follow = suitToFollow(player, depth);
            boolean own = player % SIDES == side;
            int least = low;
            int greatest = high;
            int best = own ? NONE : TOO_MANY;
            for (int k = 0; k < OPEN_HAND; k++) {
                int place = player * OPEN_HAND + k;
                if (fits(at(hands, place), follow)) {
                    int won = tricksWith(place, depth, lead, least, greatest);
                    best = own ? Math.max(best, won) : Math.min(best, won);
                    least = own ? Math.max(least, best) : least;
                    greatest = own ? greatest : Math.min(greatest, best);
                }
                if (cuts && least >= greatest) {
                    return best;
                }
            }
            return best;
        }

        /** The same if the card at this place of the hands is played first. */
        private int tricksWith(int place, int depth, int lead, int low, int high) {
            int c = at(hands, place);
            put(hands, place, NONE);
            put(row, depth, c);
            int won;
            if (depth % PLAYERS == PLAYERS - 1) {
                int winner = (lead + winningPlace(row, depth - (PLAYERS - 1), trumps)) % PLAYERS;
                int gain = winner % SIDES == side ? 1 : 0;
                won = gain + tricksFrom(depth + 1, winner, low - gain, high - gain);
            } else {
                won = tricksFrom(depth + 1, lead, low, high);
            }
            put(hands, place, c);
            return won;
        }
    }
}

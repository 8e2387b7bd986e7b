import java.util.ArrayList;
import java.util.List;

/**
 * What happened so far in an evening: nothing is kept but the deal, the calls and the cards in their
 * order, and every answer is worked out of that anew. An exception is answered as one of three numbers.
 */
final class History {
    static final int NONE = -1;
    static final int IAE = -1001;
    static final int IOOBE = -1002;
    static final int ISE = -1003;

    int deals, score0, score1, signals, trues, refused;
    int[] owner;
    List<Integer> calls = new ArrayList<>();
    List<Integer> cards = new ArrayList<>();

    History twin() {
        History h = new History();
        h.deals = deals;
        h.score0 = score0;
        h.score1 = score1;
        h.signals = signals;
        h.trues = trues;
        h.refused = refused;
        h.owner = owner;
        h.calls = new ArrayList<>(calls);
        h.cards = new ArrayList<>(cards);
        return h;
    }

    int latestBidAt() {
        for (int i = calls.size() - 1; i >= 0; i--) {
            if (calls.get(i) > 0) {
                return i;
            }
        }
        return NONE;
    }

    int latestBid() {
        int i = latestBidAt();
        return i == NONE ? 0 : calls.get(i);
    }

    boolean biddingEnded() {
        int n = calls.size();
        int b = latestBidAt();
        return b == NONE ? n >= 4 : n - 1 - b >= 3;
    }

    int phase() {
        if (owner == null) {
            return 0;
        }
        if (!biddingEnded()) {
            return 1;
        }
        return latestBidAt() == NONE || cards.size() == 32 ? 3 : 2;
    }

    int firstBidder() {
        return (deals - 1) % 4;
    }

    int declarer() {
        return phase() < 2 || latestBidAt() == NONE ? NONE : (firstBidder() + latestBidAt()) % 4;
    }

    int trumps() {
        return latestBid() % 10;
    }

    /** The player of each card that was played, and behind these the one whose turn it is. */
    List<Integer> players() {
        List<Integer> players = new ArrayList<>();
        int leader = (declarer() + 1) % 4;
        for (int i = 0; i <= cards.size(); i++) {
            if (i > 0 && i % 4 == 0) {
                leader = players.get(i - 4 + winner(cards.subList(i - 4, i)));
            }
            players.add((leader + i % 4) % 4);
        }
        return players;
    }

    int winner(List<Integer> trick) {
        int best = 0;
        for (int i = 0; i < trick.size(); i++) {
            if (power(trick.get(i), trick.get(0)) > power(trick.get(best), trick.get(0))) {
                best = i;
            }
        }
        return best;
    }

    int power(int c, int led) {
        return c / 8 == trumps() ? 100 + c % 8 : c / 8 == led / 8 ? 50 + c % 8 : c % 8 - 50;
    }

    int turn() {
        int phase = phase();
        if (phase == 1) {
            return (firstBidder() + calls.size()) % 4;
        }
        return phase == 2 ? players().get(cards.size()) : NONE;
    }

    int tricks(int side) {
        int n = 0;
        List<Integer> players = players();
        for (int i = 4; i <= cards.size(); i += 4) {
            if (players.get(i - 4 + winner(cards.subList(i - 4, i))) % 2 == side) {
                n++;
            }
        }
        return n;
    }

    int holder(int c) {
        return owner == null || cards.contains(c) ? NONE : owner[c];
    }

    List<Integer> hand(int p) {
        List<Integer> hand = new ArrayList<>();
        for (int c = 0; c < 32; c++) {
            if (holder(c) == p) {
                hand.add(c);
            }
        }
        return hand;
    }

    List<Integer> of(List<Integer> some, int s) {
        List<Integer> suit = new ArrayList<>(some);
        suit.removeIf(c -> c / 8 != s);
        return suit;
    }

    int dealt(int p, int s) {
        int n = 0;
        for (int c = s * 8; owner != null && c < s * 8 + 8; c++) {
            n += owner[c] == p ? 1 : 0;
        }
        return n;
    }

    List<Integer> drops(int p, int s) {
        List<Integer> drops = new ArrayList<>();
        List<Integer> players = players();
        for (int i = 0; i < cards.size(); i++) {
            int c = cards.get(i);
            if (i % 4 > 0 && players.get(i) == p && c / 8 == s && cards.get(i - i % 4) / 8 == s && c % 8 <= 3) {
                drops.add(c);
            }
        }
        return drops;
    }

    int signal(int p, int s) {
        List<Integer> drops = drops(p, s);
        return drops.size() < 2 ? 0 : drops.get(0) > drops.get(1) ? 2 : 1;
    }

    int truth(int p, int s) {
        int signal = signal(p, s);
        return signal == 0 ? NONE : signal % 2 == dealt(p, s) % 2 ? 1 : 0;
    }

    boolean showedNone(int p, int s) {
        List<Integer> players = players();
        for (int i = 0; i < cards.size(); i++) {
            if (players.get(i) == p && cards.get(i - i % 4) / 8 == s && cards.get(i) / 8 != s) {
                return true;
            }
        }
        return false;
    }

    int[] signalSums() {
        int[] sums = new int[2];
        for (int i = 0; i < 16; i++) {
            sums[0] += signal(i / 4, i % 4) > 0 ? 1 : 0;
            sums[1] += truth(i / 4, i % 4) == 1 ? 1 : 0;
        }
        return sums;
    }

    List<Integer> trick() {
        return phase() == 2 ? cards.subList(cards.size() - cards.size() % 4, cards.size()) : List.of();
    }

    List<Integer> legal() {
        if (phase() != 2) {
            return List.of();
        }
        List<Integer> hand = hand(turn());
        if (trick().isEmpty() || of(hand, trick().get(0) / 8).isEmpty()) {
            return hand;
        }
        return of(hand, trick().get(0) / 8);
    }

    void deal(long seed) {
        int[] row = new int[32];
        for (int i = 0; i < 32; i++) {
            row[i] = i;
        }
        long x = seed;
        for (int k = 31; k >= 1; k--) {
            x = x * 6364136223846793005L + 1442695040888963407L;
            int j = (int) (x >>> 33) % (k + 1);
            int t = row[k];
            row[k] = row[j];
            row[j] = t;
        }
        owner = new int[32];
        for (int i = 0; i < 32; i++) {
            owner[row[i]] = i % 4;
        }
        calls.clear();
        cards.clear();
        deals++;
    }

    int bid(int level, int suit) {
        if (level < 1 || level > 4 || suit < 0 || suit > 4) {
            return IAE;
        }
        int latest = latestBid();
        if (phase() != 1 || 5 * level + suit <= 5 * (latest / 10) + latest % 10) {
            return ISE;
        }
        calls.add(10 * level + suit);
        return turn();
    }

    int pass() {
        if (phase() != 1) {
            return ISE;
        }
        calls.add(0);
        return phase();
    }

    int reason(int c) {
        if (!hand(turn()).contains(c)) {
            return 1;
        }
        return legal().contains(c) ? 0 : 2;
    }

    int play(int c) {
        if (c < 0 || c > 31) {
            return IOOBE;
        }
        if (phase() != 2) {
            return ISE;
        }
        int reason = reason(c);
        if (reason != 0) {
            refused++;
            return reason;
        }
        int[] before = signalSums();
        cards.add(c);
        int[] after = signalSums();
        signals += after[0] - before[0];
        trues += after[1] - before[1];
        if (cards.size() == 32) {
            score();
        }
        return 0;
    }

    void score() {
        int level = latestBid() / 10;
        int side = declarer() % 2;
        int over = tricks(side) - 4 - level;
        int winner = over >= 0 ? side : 1 - side;
        int points = over >= 0 ? 10 * level + 2 * over : -10 * over;
        if (winner == 0) {
            score0 += points;
        } else {
            score1 += points;
        }
    }

    int advice() {
        List<Integer> legal = new ArrayList<>(legal());
        if (legal.isEmpty()) {
            return NONE;
        }
        if (!trick().isEmpty() && legal.get(0) / 8 == trick().get(0) / 8) {
            int s = trick().get(0) / 8;
            List<Integer> small = new ArrayList<>(legal);
            small.removeIf(c -> c % 8 > 3);
            boolean even = dealt(turn(), s) % 2 == 0;
            List<Integer> drops = drops(turn(), s);
            if (drops.isEmpty() && small.size() >= 2) {
                return even ? small.get(small.size() - 1) : small.get(0);
            }
            if (drops.size() == 1) {
                for (int c : small) {
                    if (even == c < drops.get(0)) {
                        return c;
                    }
                }
            }
        }
        legal.sort((a, b) -> a % 8 != b % 8 ? a % 8 - b % 8 : a - b);
        return legal.get(0);
    }

    int mayHave(int viewer, int p, int s, boolean reads) {
        if (viewer < 0 || viewer > 3 || p < 0 || p > 3 || s < 0 || s > 3) {
            return IOOBE;
        }
        if (viewer == p) {
            return IAE;
        }
        if (phase() != 2) {
            return ISE;
        }
        int unseen = 0;
        int elsewhere = 0;
        int gone = dealt(p, s) - of(hand(p), s).size();
        for (int q = 0; q < 4; q++) {
            unseen += q == viewer ? 0 : of(hand(q), s).size();
            elsewhere += q == viewer || q == p || showedNone(q, s) ? 0 : hand(q).size();
        }
        int set = 0;
        for (int n = 0; n < 9; n++) {
            boolean may = n == 0 || !showedNone(p, s);
            may &= n <= hand(p).size();
            may &= n <= unseen && unseen - n <= elsewhere;
            may &= !reads || signal(p, s) == 0 || signal(p, s) == 2 - (n + gone) % 2;
            set |= may ? 1 << n : 0;
        }
        return set;
    }

    boolean fewCards() {
        for (int p = 0; p < 4; p++) {
            if (hand(p).size() > 3) {
                return false;
            }
        }
        return phase() == 2;
    }

    /** Tricks of a side in the whole deal, by trying everything. */
    int bestFor(int side) {
        if (phase() == 3) {
            return tricks(side);
        }
        boolean own = turn() % 2 == side;
        int best = own ? -1 : 99;
        for (int c : new ArrayList<>(legal())) {
            cards.add(c);
            int got = bestFor(side);
            cards.remove(cards.size() - 1);
            best = own ? Math.max(best, got) : Math.min(best, got);
        }
        return best;
    }

    int most(int way) {
        if (way != 0 && way != 1) {
            return IAE;
        }
        if (!fewCards()) {
            return ISE;
        }
        int side = turn() % 2;
        return bestFor(side) - tricks(side);
    }

    int bestCard() {
        if (!fewCards()) {
            return ISE;
        }
        int side = turn() % 2;
        int most = bestFor(side);
        for (int c : new ArrayList<>(legal())) {
            cards.add(c);
            int got = bestFor(side);
            cards.remove(cards.size() - 1);
            if (got == most) {
                return c;
            }
        }
        return NONE;
    }

    int about(int what) {
        int[] all = {deals, phase(), turn(), latestBid(), declarer(), tricks(0), tricks(1),
            score0, score1, signals, trues, refused};
        return what < 0 || what > 11 ? IAE : all[what];
    }

    int cardOf(int c, int what) {
        if (c < 0 || c > 31) {
            return IOOBE;
        }
        if (what < 0 || what > 2) {
            return IAE;
        }
        return what == 0 ? holder(c) : what == 1 ? owner == null ? NONE : owner[c] : cards.indexOf(c);
    }

    int suitOf(int p, int s, int what) {
        if (p < 0 || p > 3 || s < 0 || s > 3) {
            return IOOBE;
        }
        switch (what) {
            case 0: return of(hand(p), s).size();
            case 1: return dealt(p, s);
            case 2: return drops(p, s).size();
            case 3: return signal(p, s);
            case 4: return truth(p, s);
            case 5: return showedNone(p, s) ? 1 : 0;
            default: return IAE;
        }
    }

    int trick(int k) {
        return k < 0 || k > 3 ? IOOBE : k < trick().size() ? trick().get(k) : NONE;
    }

    int legal(int k) {
        return k < 0 || k > 7 ? IOOBE : k < legal().size() ? legal().get(k) : NONE;
    }

    int runScript(int n, long script) {
        if (n < 1 || n > 4 || script < 0 || String.valueOf(script).length() > 4 * n) {
            return IAE;
        }
        StringBuilder digits = new StringBuilder(String.valueOf(script));
        while (digits.length() < 4 * n) {
            digits.insert(0, '0');
        }
        History h = twin();
        for (int i = 0; i < n; i++) {
            if (!h.command(digits.substring(4 * i, 4 * i + 4))) {
                return i;
            }
        }
        return NONE;
    }

    boolean command(String g) {
        int a = g.charAt(1) - '0';
        int b = g.charAt(2) - '0';
        int z = g.charAt(3) - '0';
        int two = 10 * b + z;
        if (g.matches("10..")) {
            deal(two);
            return true;
        } else if (g.matches("2..0")) {
            return bid(a, b) >= 0;
        } else if (g.equals("3000")) {
            return pass() >= 0;
        } else if (g.matches("40..")) {
            return play(two) == 0;
        } else if (g.matches("500.")) {
            for (int i = 0; i < z; i++) {
                if (advice() == NONE) {
                    return false;
                }
                play(advice());
            }
            return true;
        } else if (g.matches("600[0-3]")) {
            return turn() == z;
        } else if (g.matches("7[01]0.")) {
            return tricks(a) >= z;
        } else if (g.matches("8[0-3][0-3][0-2]")) {
            return signal(a, b) == z;
        } else if (g.matches("9[0-3]..") && two < 32) {
            return holder(two) == a;
        }
        return false;
    }

    int simulate(long seed, int m) {
        if (m < 1 || m > 200) {
            return IAE;
        }
        History h = twin();
        long x = seed;
        for (int i = 0; i < m; i++) {
            x = x * 6364136223846793005L + 1442695040888963407L;
            int r = (int) (x >>> 33);
            int q = r / 16;
            int phase = h.phase();
            if (phase == 0 || phase == 3) {
                h.deal(q);
            } else if (phase == 1) {
                int ignored = r % 16 < 6 ? h.bid(1 + q % 4, q / 4 % 5) : h.pass();
            } else {
                h.play(r % 16 < 8 ? h.legal().get(q % h.legal().size()) : h.advice());
            }
        }
        return 10000 * (h.signals - signals) + 100 * (h.trues - trues) + h.deals - deals;
    }

    // ---- the card that was played last

    int last() {
        return cards.isEmpty() ? NONE : cards.get(cards.size() - 1);
    }

    int lastPlayer() {
        return cards.isEmpty() ? NONE : players().get(cards.size() - 1);
    }

    boolean lastLed() {
        return cards.size() % 4 == 1;
    }

    int lastLead() {
        return cards.isEmpty() ? NONE : cards.get((cards.size() - 1) / 4 * 4);
    }

    boolean lastFollowed() {
        return !cards.isEmpty() && !lastLed() && last() / 8 == lastLead() / 8;
    }

    boolean trickEnded() {
        return !cards.isEmpty() && cards.size() % 4 == 0;
    }

    /** The cards of the trick in which the last card was played. */
    List<Integer> lastTrick() {
        return cards.subList((cards.size() - 1) / 4 * 4, cards.size());
    }

    int lastLeader() {
        return players().get((cards.size() - 1) / 4 * 4);
    }
}

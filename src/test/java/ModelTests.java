import java.util.ArrayList;
import java.util.List;
import java.util.Random;
import java.util.regex.Pattern;

/**
 * Compares the program with a model that keeps nothing but what happened (the deal, the calls, the
 * cards in their order) and works every answer out of that anew, in random runs of 512 calls.
 */
public final class ModelTests {
    static final int NONE = -1;
    static final int IAE = -1001;
    static final int IOOBE = -1002;
    static final int ISE = -1003;

    /** What happened so far. */
    static final class History implements Cloneable {
        int deals, score0, score1, signals, trues, refused;
        int[] owner;
        List<Integer> calls = new ArrayList<>();
        List<Integer> cards = new ArrayList<>();

        History twin() {
            History h = new History();
            h.deals = deals;
            h.score0 = score0;
            h.score1 = score1;
            h.signals = signals;
            h.trues = trues;
            h.refused = refused;
            h.owner = owner;
            h.calls = new ArrayList<>(calls);
            h.cards = new ArrayList<>(cards);
            return h;
        }

        int latestBidAt() {
            for (int i = calls.size() - 1; i >= 0; i--) {
                if (calls.get(i) > 0) {
                    return i;
                }
            }
            return NONE;
        }

        int latestBid() {
            int i = latestBidAt();
            return i == NONE ? 0 : calls.get(i);
        }

        boolean biddingEnded() {
            int n = calls.size();
            int b = latestBidAt();
            return b == NONE ? n >= 4 : n - 1 - b >= 3;
        }

        int phase() {
            if (owner == null) {
                return 0;
            }
            if (!biddingEnded()) {
                return 1;
            }
            return latestBidAt() == NONE || cards.size() == 32 ? 3 : 2;
        }

        int firstBidder() {
            return (deals - 1) % 4;
        }

        int declarer() {
            return phase() < 2 || latestBidAt() == NONE ? NONE : (firstBidder() + latestBidAt()) % 4;
        }

        int trumps() {
            return latestBid() % 10;
        }

        /** The player of each card that was played, and behind these the one whose turn it is. */
        List<Integer> players() {
            List<Integer> players = new ArrayList<>();
            int leader = (declarer() + 1) % 4;
            for (int i = 0; i <= cards.size(); i++) {
                if (i > 0 && i % 4 == 0) {
                    leader = players.get(i - 4 + winner(cards.subList(i - 4, i)));
                }
                players.add((leader + i % 4) % 4);
            }
            return players;
        }

        int winner(List<Integer> trick) {
            int best = 0;
            for (int i = 0; i < trick.size(); i++) {
                if (power(trick.get(i), trick.get(0)) > power(trick.get(best), trick.get(0))) {
                    best = i;
                }
            }
            return best;
        }

        int power(int c, int led) {
            return c / 8 == trumps() ? 100 + c % 8 : c / 8 == led / 8 ? 50 + c % 8 : c % 8 - 50;
        }

        int turn() {
            int phase = phase();
            if (phase == 1) {
                return (firstBidder() + calls.size()) % 4;
            }
            return phase == 2 ? players().get(cards.size()) : NONE;
        }

        int tricks(int side) {
            int n = 0;
            List<Integer> players = players();
            for (int i = 4; i <= cards.size(); i += 4) {
                if (players.get(i - 4 + winner(cards.subList(i - 4, i))) % 2 == side) {
                    n++;
                }
            }
            return n;
        }

        int holder(int c) {
            return owner == null || cards.contains(c) ? NONE : owner[c];
        }

        List<Integer> hand(int p) {
            List<Integer> hand = new ArrayList<>();
            for (int c = 0; c < 32; c++) {
                if (holder(c) == p) {
                    hand.add(c);
                }
            }
            return hand;
        }

        List<Integer> of(List<Integer> some, int s) {
            List<Integer> suit = new ArrayList<>(some);
            suit.removeIf(c -> c / 8 != s);
            return suit;
        }

        int dealt(int p, int s) {
            int n = 0;
            for (int c = s * 8; owner != null && c < s * 8 + 8; c++) {
                n += owner[c] == p ? 1 : 0;
            }
            return n;
        }

        List<Integer> drops(int p, int s) {
            List<Integer> drops = new ArrayList<>();
            List<Integer> players = players();
            for (int i = 0; i < cards.size(); i++) {
                int c = cards.get(i);
                if (i % 4 > 0 && players.get(i) == p && c / 8 == s && cards.get(i - i % 4) / 8 == s && c % 8 <= 3) {
                    drops.add(c);
                }
            }
            return drops;
        }

        int signal(int p, int s) {
            List<Integer> drops = drops(p, s);
            return drops.size() < 2 ? 0 : drops.get(0) > drops.get(1) ? 2 : 1;
        }

        int truth(int p, int s) {
            int signal = signal(p, s);
            return signal == 0 ? NONE : signal % 2 == dealt(p, s) % 2 ? 1 : 0;
        }

        boolean showedNone(int p, int s) {
            List<Integer> players = players();
            for (int i = 0; i < cards.size(); i++) {
                if (players.get(i) == p && cards.get(i - i % 4) / 8 == s && cards.get(i) / 8 != s) {
                    return true;
                }
            }
            return false;
        }

        int[] signalSums() {
            int[] sums = new int[2];
            for (int i = 0; i < 16; i++) {
                sums[0] += signal(i / 4, i % 4) > 0 ? 1 : 0;
                sums[1] += truth(i / 4, i % 4) == 1 ? 1 : 0;
            }
            return sums;
        }

        List<Integer> trick() {
            return phase() == 2 ? cards.subList(cards.size() - cards.size() % 4, cards.size()) : List.of();
        }

        List<Integer> legal() {
            if (phase() != 2) {
                return List.of();
            }
            List<Integer> hand = hand(turn());
            if (trick().isEmpty() || of(hand, trick().get(0) / 8).isEmpty()) {
                return hand;
            }
            return of(hand, trick().get(0) / 8);
        }

        void deal(long seed) {
            int[] row = new int[32];
            for (int i = 0; i < 32; i++) {
                row[i] = i;
            }
            long x = seed;
            for (int k = 31; k >= 1; k--) {
                x = x * 6364136223846793005L + 1442695040888963407L;
                int j = (int) (x >>> 33) % (k + 1);
                int t = row[k];
                row[k] = row[j];
                row[j] = t;
            }
            owner = new int[32];
            for (int i = 0; i < 32; i++) {
                owner[row[i]] = i % 4;
            }
            calls.clear();
            cards.clear();
            deals++;
        }

        int bid(int level, int suit) {
            if (level < 1 || level > 4 || suit < 0 || suit > 4) {
                return IAE;
            }
            int latest = latestBid();
            if (phase() != 1 || 5 * level + suit <= 5 * (latest / 10) + latest % 10) {
                return ISE;
            }
            calls.add(10 * level + suit);
            return turn();
        }

        int pass() {
            if (phase() != 1) {
                return ISE;
            }
            calls.add(0);
            return phase();
        }

        int reason(int c) {
            if (!hand(turn()).contains(c)) {
                return 1;
            }
            return legal().contains(c) ? 0 : 2;
        }

        int play(int c) {
            if (c < 0 || c > 31) {
                return IOOBE;
            }
            if (phase() != 2) {
                return ISE;
            }
            int reason = reason(c);
            if (reason != 0) {
                refused++;
                return reason;
            }
            int[] before = signalSums();
            cards.add(c);
            int[] after = signalSums();
            signals += after[0] - before[0];
            trues += after[1] - before[1];
            if (cards.size() == 32) {
                score();
            }
            return 0;
        }

        void score() {
            int level = latestBid() / 10;
            int side = declarer() % 2;
            int over = tricks(side) - 4 - level;
            int winner = over >= 0 ? side : 1 - side;
            int points = over >= 0 ? 10 * level + 2 * over : -10 * over;
            if (winner == 0) {
                score0 += points;
            } else {
                score1 += points;
            }
        }

        int advice() {
            List<Integer> legal = new ArrayList<>(legal());
            if (legal.isEmpty()) {
                return NONE;
            }
            if (!trick().isEmpty() && legal.get(0) / 8 == trick().get(0) / 8) {
                int s = trick().get(0) / 8;
                List<Integer> small = new ArrayList<>(legal);
                small.removeIf(c -> c % 8 > 3);
                boolean even = dealt(turn(), s) % 2 == 0;
                List<Integer> drops = drops(turn(), s);
                if (drops.isEmpty() && small.size() >= 2) {
                    return even ? small.get(small.size() - 1) : small.get(0);
                }
                if (drops.size() == 1) {
                    for (int c : small) {
                        if (even == c < drops.get(0)) {
                            return c;
                        }
                    }
                }
            }
            legal.sort((a, b) -> a % 8 != b % 8 ? a % 8 - b % 8 : a - b);
            return legal.get(0);
        }

        int mayHave(int viewer, int p, int s, boolean reads) {
            if (viewer < 0 || viewer > 3 || p < 0 || p > 3 || s < 0 || s > 3) {
                return IOOBE;
            }
            if (viewer == p) {
                return IAE;
            }
            if (phase() != 2) {
                return ISE;
            }
            int unseen = 0;
            int elsewhere = 0;
            int gone = dealt(p, s) - of(hand(p), s).size();
            for (int q = 0; q < 4; q++) {
                unseen += q == viewer ? 0 : of(hand(q), s).size();
                elsewhere += q == viewer || q == p || showedNone(q, s) ? 0 : hand(q).size();
            }
            int set = 0;
            for (int n = 0; n < 9; n++) {
                boolean may = n == 0 || !showedNone(p, s);
                may &= n <= hand(p).size();
                may &= n <= unseen && unseen - n <= elsewhere;
                may &= !reads || signal(p, s) == 0 || signal(p, s) == 2 - (n + gone) % 2;
                set |= may ? 1 << n : 0;
            }
            return set;
        }

        boolean fewCards() {
            for (int p = 0; p < 4; p++) {
                if (hand(p).size() > 3) {
                    return false;
                }
            }
            return phase() == 2;
        }

        /** Tricks of a side in the whole deal, by trying everything. */
        int bestFor(int side) {
            if (phase() == 3) {
                return tricks(side);
            }
            boolean own = turn() % 2 == side;
            int best = own ? -1 : 99;
            for (int c : new ArrayList<>(legal())) {
                cards.add(c);
                int got = bestFor(side);
                cards.remove(cards.size() - 1);
                best = own ? Math.max(best, got) : Math.min(best, got);
            }
            return best;
        }

        int most(int way) {
            if (way != 0 && way != 1) {
                return IAE;
            }
            if (!fewCards()) {
                return ISE;
            }
            int side = turn() % 2;
            return bestFor(side) - tricks(side);
        }

        int bestCard() {
            if (!fewCards()) {
                return ISE;
            }
            int side = turn() % 2;
            int most = bestFor(side);
            for (int c : new ArrayList<>(legal())) {
                cards.add(c);
                int got = bestFor(side);
                cards.remove(cards.size() - 1);
                if (got == most) {
                    return c;
                }
            }
            return NONE;
        }

        int about(int what) {
            int[] all = {deals, phase(), turn(), latestBid(), declarer(), tricks(0), tricks(1),
                score0, score1, signals, trues, refused};
            return what < 0 || what > 11 ? IAE : all[what];
        }

        int cardOf(int c, int what) {
            if (c < 0 || c > 31) {
                return IOOBE;
            }
            if (what < 0 || what > 2) {
                return IAE;
            }
            return what == 0 ? holder(c) : what == 1 ? owner == null ? NONE : owner[c] : cards.indexOf(c);
        }

        int suitOf(int p, int s, int what) {
            if (p < 0 || p > 3 || s < 0 || s > 3) {
                return IOOBE;
            }
            switch (what) {
                case 0: return of(hand(p), s).size();
                case 1: return dealt(p, s);
                case 2: return drops(p, s).size();
                case 3: return signal(p, s);
                case 4: return truth(p, s);
                case 5: return showedNone(p, s) ? 1 : 0;
                default: return IAE;
            }
        }

        int trick(int k) {
            return k < 0 || k > 3 ? IOOBE : k < trick().size() ? trick().get(k) : NONE;
        }

        int legal(int k) {
            return k < 0 || k > 7 ? IOOBE : k < legal().size() ? legal().get(k) : NONE;
        }

        int runScript(int n, long script) {
            if (n < 1 || n > 4 || script < 0 || String.valueOf(script).length() > 4 * n) {
                return IAE;
            }
            StringBuilder digits = new StringBuilder(String.valueOf(script));
            while (digits.length() < 4 * n) {
                digits.insert(0, '0');
            }
            History h = twin();
            for (int i = 0; i < n; i++) {
                if (!h.command(digits.substring(4 * i, 4 * i + 4))) {
                    return i;
                }
            }
            return NONE;
        }

        boolean command(String g) {
            int a = g.charAt(1) - '0';
            int b = g.charAt(2) - '0';
            int z = g.charAt(3) - '0';
            int two = 10 * b + z;
            if (g.matches("10..")) {
                deal(two);
                return true;
            } else if (g.matches("2..0")) {
                return bid(a, b) >= 0;
            } else if (g.equals("3000")) {
                return pass() >= 0;
            } else if (g.matches("40..")) {
                return play(two) == 0;
            } else if (g.matches("500.")) {
                for (int i = 0; i < z; i++) {
                    if (advice() == NONE) {
                        return false;
                    }
                    play(advice());
                }
                return true;
            } else if (g.matches("600[0-3]")) {
                return turn() == z;
            } else if (g.matches("7[01]0.")) {
                return tricks(a) >= z;
            } else if (g.matches("8[0-3][0-3][0-2]")) {
                return signal(a, b) == z;
            } else if (g.matches("9[0-3]..") && two < 32) {
                return holder(two) == a;
            }
            return false;
        }

        int simulate(long seed, int m) {
            if (m < 1 || m > 200) {
                return IAE;
            }
            History h = twin();
            long x = seed;
            for (int i = 0; i < m; i++) {
                x = x * 6364136223846793005L + 1442695040888963407L;
                int r = (int) (x >>> 33);
                int q = r / 16;
                int phase = h.phase();
                if (phase == 0 || phase == 3) {
                    h.deal(q);
                } else if (phase == 1) {
                    int ignored = r % 16 < 6 ? h.bid(1 + q % 4, q / 4 % 5) : h.pass();
                } else {
                    h.play(r % 16 < 8 ? h.legal().get(q % h.legal().size()) : h.advice());
                }
            }
            return 10000 * (h.signals - signals) + 100 * (h.trues - trues) + h.deals - deals;
        }
    }

    /** The evening with its text, its remembered states and its save slots. */
    static final class Model {
        static final Pattern EVENING = Pattern.compile("V(d[0-9][0-9]|b[1-4][0-4]|p|c[0-2][0-9]|c3[01]|a)*");
        History now = new History();
        List<History> remembered = new ArrayList<>();
        History[] slots = new History[2];
        StringBuilder text = new StringBuilder();

        void remember(History before) {
            remembered.add(before);
            if (remembered.size() > 14) {
                remembered.remove(0);
            }
        }

        int acted(History before, int answer) {
            if (answer > -1000) {
                remember(before);
            }
            return answer;
        }

        int append(int c) {
            if (c < 0 || c > 255) {
                return IAE;
            }
            if (text.length() == 120) {
                return ISE;
            }
            text.append((char) c);
            return text.length();
        }

        int clearText() {
            int n = text.length();
            text.setLength(0);
            return n;
        }

        /** Whether some text that begins with this one is an evening. */
        static boolean isBeginning(String s) {
            for (String end : new String[] {"", "0", "00", "10", "1", "V"}) {
                if (EVENING.matcher(s + end).matches()) {
                    return true;
                }
            }
            return false;
        }

        int errorPosition() {
            if (EVENING.matcher(text).matches()) {
                return NONE;
            }
            for (int i = 1; i <= text.length(); i++) {
                if (!isBeginning(text.substring(0, i))) {
                    return i - 1;
                }
            }
            return text.length();
        }

        int load() {
            if (errorPosition() != NONE) {
                return ISE;
            }
            now = new History();
            remembered.clear();
            slots = new History[2];
            int left = 0;
            for (int i = 1; i < text.length(); i++) {
                char c = text.charAt(i);
                if (c == 'p') {
                    left += now.pass() < 0 ? 1 : 0;
                } else if (c == 'a') {
                    if (now.advice() != NONE) {
                        now.play(now.advice());
                    }
                } else {
                    int two = Integer.parseInt(text.substring(i + 1, i + 3));
                    i += 2;
                    if (c == 'd') {
                        now.deal(two);
                    } else if (c == 'b') {
                        left += now.bid(two / 10, two % 10) < 0 ? 1 : 0;
                    } else if (now.phase() == 2 && now.reason(two) == 0) {
                        now.play(two);
                    } else {
                        left++;
                    }
                }
            }
            return left;
        }

        int undo() {
            if (remembered.isEmpty()) {
                return ISE;
            }
            now = remembered.remove(remembered.size() - 1);
            return remembered.size();
        }

        int save(int slot) {
            if (slot < 0 || slot > 1) {
                return IOOBE;
            }
            slots[slot] = now.twin();
            return now.deals;
        }

        int restore(int slot) {
            if (slot < 0 || slot > 1) {
                return IOOBE;
            }
            if (slots[slot] == null) {
                return ISE;
            }
            now = slots[slot].twin();
            remembered.clear();
            return now.deals;
        }
    }

    interface Call {
        int answer();
    }

    static int codeOf(Call call) {
        try {
            return call.answer();
        } catch (RuntimeException e) {
            if (e.getClass() == IllegalArgumentException.class) {
                return IAE;
            }
            if (e.getClass() == IllegalStateException.class) {
                return ISE;
            }
            if (e.getClass() == IndexOutOfBoundsException.class) {
                return IOOBE;
            }
            throw e;
        }
    }

    static int wrong = 0;
    static int[] uses = new int[40];
    static int scored = 0;
    static int searched = 0;

    static final class Run {
        final int number;
        final Random random;
        final Model model = new Model();
        final DropSignals program = new DropSignals();
        int calls = 0;

        Run(int number) {
            this.number = number;
            random = new Random(number * 77L + 5);
        }

        void compare(String call, Call due, Call got) {
            calls++;
            int want = due.answer();
            int have = codeOf(got);
            if (want != have) {
                wrong++;
                if (wrong < 30) {
                    System.out.println("run " + number + ", call " + calls + ": " + call + " answered " + have + ", due is " + want);
                }
            }
        }

        int number(int below) {
            return random.nextInt(below);
        }

        /** Mostly from 0 to below, sometimes just beside or far out. */
        int near(int below) {
            if (number(25) > 0) {
                return number(below);
            }
            int[] odd = {-1, below, below + 1, Integer.MIN_VALUE, Integer.MAX_VALUE, -2};
            return odd[number(odd.length)];
        }

        void go(int length) {
            while (calls < length) {
                int before = wrong;
                int kind = number(100);
                if (kind < 50) {
                    forward();
                } else if (kind < 75) {
                    look();
                } else if (kind < 90) {
                    think();
                } else {
                    rest();
                }
                if (wrong > before) {
                    return;
                }
            }
        }

        void forward() {
            int phase = model.now.phase();
            int kind = number(40);
            if (kind == 0 || phase % 3 == 0 && kind < 30) {
                long seed = number(3) == 0 ? random.nextLong() : number(100);
                deal(seed);
            } else if (kind == 1) {
                bid();
            } else if (kind == 2) {
                pass();
            } else if (kind == 3) {
                play(near(32));
            } else if (kind == 4) {
                compare("undo()", model::undo, program::undo);
            } else if (phase == 1) {
                if (number(3) == 0) {
                    bid();
                } else {
                    pass();
                }
            } else if (phase == 2) {
                List<Integer> legal = model.now.legal();
                List<Integer> hand = model.now.hand(model.now.turn());
                int wish = number(10);
                if (wish < 3) {
                    compare("advice()", model.now::advice, program::advice);
                }
                play(wish < 5 ? model.now.advice() : wish < 9 ? legal.get(number(legal.size())) : hand.get(number(hand.size())));
            }
        }

        void deal(long seed) {
            History before = model.now.twin();
            compare("deal(" + seed + ")", () -> {
                model.now.deal(seed);
                return model.acted(before, model.now.deals);
            }, () -> program.deal(seed));
        }

        void bid() {
            int level = number(4) > 0 ? 1 + number(2) : near(6);
            int suit = near(5);
            History before = model.now.twin();
            compare("bid(" + level + ", " + suit + ")", () -> model.acted(before, model.now.bid(level, suit)), () -> program.bid(level, suit));
        }

        void pass() {
            History before = model.now.twin();
            compare("pass()", () -> model.acted(before, model.now.pass()), program::pass);
        }

        void play(int c) {
            History before = model.now.twin();
            compare("play(" + c + ")", () -> model.acted(before, model.now.play(c)), () -> program.play(c));
            if (model.now.score0 + model.now.score1 != before.score0 + before.score1) {
                scored++;
            }
        }

        void look() {
            int what = near(12);
            int c = near(32);
            int some = near(3);
            int p = near(4);
            int s = near(4);
            int one = near(6);
            switch (number(6)) {
                case 0:
                case 1:
                    compare("about(" + what + ")", () -> model.now.about(what), () -> program.about(what));
                    break;
                case 2:
                    compare("cardOf(" + c + ", " + some + ")", () -> model.now.cardOf(c, some), () -> program.cardOf(c, some));
                    break;
                case 3:
                case 4:
                    compare("suitOf(" + p + ", " + s + ", " + one + ")", () -> model.now.suitOf(p, s, one), () -> program.suitOf(p, s, one));
                    break;
                default:
                    compare("trick(" + s + ")", () -> model.now.trick(s), () -> program.trick(s));
            }
        }

        void think() {
            int k = near(8);
            int viewer = near(4);
            int p = near(4);
            int s = near(4);
            boolean reads = number(3) > 0;
            int way = near(2);
            switch (number(9)) {
                case 0:
                    compare("legal(" + k + ")", () -> model.now.legal(k), () -> program.legal(k));
                    break;
                case 1:
                    compare("advice()", model.now::advice, program::advice);
                    break;
                case 2:
                case 3:
                case 4:
                    compare("mayHave(" + viewer + ", " + p + ", " + s + ", " + reads + ")",
                        () -> model.now.mayHave(viewer, p, s, reads), () -> program.mayHave(viewer, p, s, reads));
                    break;
                case 5:
                    // The model is slow, so it searches the dearest hands but seldom.
                    if (model.now.cards.size() > 22 || number(30) == 0) {
                        searched++;
                        compare("most(" + way + ")", () -> model.now.most(way), () -> program.most(way));
                        compare("most(" + (1 - way) + ")", () -> model.now.most(1 - way), () -> program.most(1 - way));
                    }
                    break;
                case 6:
                    if (model.now.cards.size() > 22 || number(30) == 0) {
                        compare("bestCard()", model.now::bestCard, program::bestCard);
                    }
                    break;
                case 7:
                    script();
                    break;
                default:
                    long seed = random.nextLong();
                    int m = number(8) == 0 ? near(202) : 1 + number(60);
                    if (number(4) == 0) {
                        compare("simulate(" + seed + ", " + m + ")", () -> model.now.simulate(seed, m), () -> program.simulate(seed, m));
                    }
            }
        }

        String group() {
            int turn = Math.max(0, model.now.turn());
            List<Integer> legal = model.now.legal();
            int c = legal.isEmpty() || number(4) == 0 ? number(34) : legal.get(number(legal.size()));
            switch (number(12)) {
                case 0: return String.format("10%02d", number(100));
                case 1: return String.format("2%d%d0", number(6), number(6));
                case 2: return "3000";
                case 3: return String.format("40%02d", c);
                case 4: return String.format("500%d", number(10));
                case 5: return String.format("600%d", number(3) == 0 ? number(6) : turn);
                case 6: return String.format("7%d0%d", number(3), number(4));
                case 7: return String.format("8%d%d%d", number(5), number(5), number(4));
                case 8: return String.format("9%d%02d", number(3) == 0 ? number(5) : turn, c);
                case 9: return String.format("%d%d%d%d", number(10), number(3), number(3), number(3));
                case 10: return "500" + number(4);
                default: return "3000";
            }
        }

        void script() {
            int n = near(4) + (number(20) == 0 ? 0 : 1);
            StringBuilder digits = new StringBuilder();
            for (int i = 0; i < Math.max(1, Math.min(4, n)); i++) {
                digits.append(group());
            }
            if (number(30) == 0 && digits.length() < 17) {
                digits.append("7");
            }
            long script = Long.parseLong(digits.toString()) * (number(40) == 0 ? -1 : 1);
            compare("runScript(" + n + ", " + script + ")", () -> model.now.runScript(n, script), () -> program.runScript(n, script));
        }

        void rest() {
            int slot = near(2);
            switch (number(12)) {
                case 0:
                case 1:
                case 2:
                    compare("save(" + slot + ")", () -> model.save(slot), () -> program.save(slot));
                    break;
                case 3:
                    compare("restore(" + slot + ")", () -> model.restore(slot), () -> program.restore(slot));
                    break;
                case 4:
                case 5:
                    int times = 1 + number(5);
                    for (int i = 0; i < times; i++) {
                        compare("undo()", model::undo, program::undo);
                    }
                    break;
                case 6:
                    if (number(3) == 0) {
                        text();
                    }
                    break;
                case 7:
                    compare("errorPosition()", model::errorPosition, program::errorPosition);
                    break;
                case 8:
                    if (number(10) == 0) {
                        compare("load()", model::load, program::load);
                    }
                    break;
                case 9:
                    int c = near(256);
                    compare("append(" + c + ")", () -> model.append(c), () -> program.append(c));
                    break;
                default:
                    if (number(10) == 0) {
                        compare("clearText()", model::clearText, program::clearText);
                    }
            }
        }

        void text() {
            compare("clearText()", model::clearText, program::clearText);
            StringBuilder text = new StringBuilder("Vd" + number(10) + number(10));
            for (int i = number(4); i > 0; i--) {
                text.append(number(2) == 0 ? "p" : "b" + (1 + number(4)) + number(5));
            }
            text.append("b" + (1 + number(2)) + number(5)).append("ppp");
            for (int i = number(34); i > 0; i--) {
                text.append(number(5) > 0 ? "a" : String.format("c%02d", number(32)));
            }
            if (number(6) == 0) {
                text.append(String.format("d%02db1%dppp", number(100), number(5)));
            }
            if (number(6) == 0) {
                text.setCharAt(number(text.length()), "Vdbpca0123456789 ".charAt(number(17)));
            }
            if (number(8) == 0) {
                text.setLength(number(text.length()));
            }
            for (int i = 0; i < text.length(); i++) {
                int c = text.charAt(i);
                compare("append(" + c + ")", () -> model.append(c), () -> program.append(c));
            }
            compare("errorPosition()", model::errorPosition, program::errorPosition);
            compare("load()", model::load, program::load);
        }
    }

    public static void main(String[] args) {
        int runs = args.length > 0 ? Integer.parseInt(args[0]) : 300;
        for (int i = 0; i < runs && wrong < 30; i++) {
            new Run(i).go(500);
        }
        System.out.println(runs + " runs, " + scored + " deals scored, " + searched + " searches, " + wrong + " wrong");
        if (wrong != 0) {
            System.exit(1);
        }
    }
}

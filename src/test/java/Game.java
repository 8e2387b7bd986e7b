import java.util.ArrayList;
import java.util.List;
import java.util.function.Predicate;

/** An evening whose calls are kept: the model follows it, and it is made on new objects as often as it is needed. */
final class Game {
    /** How a player chooses a card. */
    interface Way {
        int card(History h);
    }

    static final Way[] WAYS = {
        h -> h.legal().get(0),
        h -> h.legal().get(h.legal().size() - 1),
        History::advice,
        h -> h.legal().get(h.cards.size() * 7 % 11 % h.legal().size()),
        Game::highRank,
    };

    History now = new History();
    private final List<long[]> calls = new ArrayList<>();

    Game deal(long seed) {
        calls.add(new long[] {0, seed});
        now.deal(seed);
        return this;
    }

    Game bid(int level, int suit) {
        calls.add(new long[] {1, level, suit});
        now.bid(level, suit);
        return this;
    }

    Game pass() {
        calls.add(new long[] {2});
        now.pass();
        return this;
    }

    Game passes(int times) {
        for (int i = 0; i < times; i++) {
            pass();
        }
        return this;
    }

    Game play(int c) {
        calls.add(new long[] {3, c});
        now.play(c);
        return this;
    }

    /** The level and the suit are bid by the player who stands this many behind the first to bid. */
    Game contract(int level, int suit, int behind) {
        return passes(behind).bid(level, suit).passes(3);
    }

    static Game inPlay(long seed, int level, int suit, int declarer) {
        return new Game().deal(seed).contract(level, suit, declarer);
    }

    Game playOn(Way way, int cards) {
        for (int i = 0; i < cards && now.phase() == 2; i++) {
            play(way.card(now));
        }
        return this;
    }

    /** The same without the last call. */
    Game back() {
        Game g = new Game();
        for (int i = 0; i < calls.size() - 1; i++) {
            g.call(calls.get(i));
        }
        return g;
    }

    private void call(long[] call) {
        switch ((int) call[0]) {
            case 0:
                deal(call[1]);
                break;
            case 1:
                bid((int) call[1], (int) call[2]);
                break;
            case 2:
                pass();
                break;
            default:
                play((int) call[1]);
        }
    }

    /** A new object behind all these calls. */
    DropSignals made() {
        DropSignals x = new DropSignals();
        for (long[] call : calls) {
            switch ((int) call[0]) {
                case 0:
                    x.deal(call[1]);
                    break;
                case 1:
                    x.bid((int) call[1], (int) call[2]);
                    break;
                case 2:
                    x.pass();
                    break;
                default:
                    x.play((int) call[1]);
            }
        }
        return x;
    }

    /** The first deals, from many seeds, contracts and ways to play, in which this comes up; one point of each. */
    static List<Game> some(int count, Predicate<History> comesUp) {
        List<Game> found = new ArrayList<>();
        for (int i = 0; i < 6000 && found.size() < count; i++) {
            int seed = i / WAYS.length;
            Game g = inPlay(seed, 1 + seed / 3 % 4, seed % 5, seed / 2 % 4);
            boolean fits = comesUp.test(g.now);
            while (!fits && g.now.phase() == 2) {
                g.play(WAYS[i % WAYS.length].card(g.now));
                fits = comesUp.test(g.now);
            }
            if (fits) {
                found.add(g);
            }
        }
        if (found.size() < count) {
            throw new IllegalStateException("this comes up in " + found.size() + " deals only");
        }
        return found;
    }

    static Game one(Predicate<History> comesUp) {
        return some(1, comesUp).get(0);
    }

    static int highRank(History h) {
        int best = h.legal().get(0);
        for (int c : h.legal()) {
            best = c % 8 > best % 8 ? c : best;
        }
        return best;
    }

    static int lowRank(History h) {
        int best = h.legal().get(0);
        for (int c : h.legal()) {
            best = c % 8 < best % 8 ? c : best;
        }
        return best;
    }
}

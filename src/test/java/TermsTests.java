import java.util.ArrayList;
import java.util.Arrays;
import java.util.List;
import java.util.function.IntPredicate;

/** "Terms", cards, a deal and signals: a test for each sentence that names a boundary. */
public final class TermsTests extends Checks {
    // ---- What it is

    static void anObjectIsUsedFor512Calls() {
        says("What it is: An object is used for at most 512 calls: all of these answer as they should");
        DropSignals x = new DropSignals();
        for (int i = 1; i <= 497; i++) {
            due("deal() number " + i, i, x.deal(i));
        }
        for (int i = 13; i >= 0; i--) {
            due("undo()", i, x.undo());
        }
        due("about(0), the 512th call", 483, x.about(0));
        Game g = Game.inPlay(3, 1, 2, 0).playOn(Game.WAYS[0], 20);
        DropSignals y = g.made();
        int best = g.now.bestCard();
        int turns = g.now.simulate(5, 200);
        for (int i = 0; i < 240; i++) {
            due("bestCard() number " + i, best, y.bestCard());
            due("simulate() number " + i, turns, y.simulate(5, 200));
        }
    }

    // ---- CARDS, PLAYERS

    /** Worked out by another program, so that these are not the tests' own reading of the rule. */
    static final long[] SEEDS = {0, 1, 7, 99, -1, Long.MAX_VALUE, Long.MIN_VALUE};
    static final String[] OWNERS = {
        "00321021333003120212201113032213",
        "00221113033030130312223210312102",
        "03110311021232010203302311230232",
        "03023221231211313001030012330221",
        "33020221332102003311110201321230",
        "01213010311212233302010023230213",
        "02210231131100003213032203131223",
    };

    static void theCardsAre0To31() {
        says("CARDS: There are 32 cards, numbered from 0");
        DropSignals x = dealt(5);
        int[] dealt = new int[4];
        for (int c = 0; c < 32; c++) {
            int p = x.cardOf(c, 1);
            must("cardOf(" + c + ", 1) is a player", p >= 0 && p < 4);
            dealt[p & 3]++;
        }
        for (int p = 0; p < 4; p++) {
            due("cards of the player " + p, 8, dealt[p]);
        }
        refused("cardOf(-1, 1)", INDEX, () -> x.cardOf(-1, 1));
        refused("cardOf(32, 1)", INDEX, () -> x.cardOf(32, 1));
    }

    static void theSuitIsTheCardDividedBy8() {
        says("CARDS: the card c has the suit c / 8 (0 to 3)");
        for (int i = 0; i < SEEDS.length; i++) {
            DropSignals x = dealt(SEEDS[i]);
            for (int p = 0; p < 4; p++) {
                for (int s = 0; s < 4; s++) {
                    int want = 0;
                    for (int c = 8 * s; c < 8 * s + 8; c++) {
                        want += OWNERS[i].charAt(c) == '0' + p ? 1 : 0;
                    }
                    due("suitOf(" + p + ", " + s + ", 1), dealt with " + SEEDS[i], want, x.suitOf(p, s, 1));
                }
            }
        }
    }

    static void aGreaterRankIsHigher() {
        says("CARDS: a greater rank is higher");
        for (Game g : Game.some(12, h -> h.trickEnded() && h.phase() == 2 && allOfOneSuit(h.lastTrick()))) {
            List<Integer> trick = g.now.lastTrick();
            int best = 0;
            for (int i = 1; i < 4; i++) {
                best = trick.get(i) % 8 > trick.get(best) % 8 ? i : best;
            }
            due("winner of " + trick, (g.now.lastLeader() + best) % 4, g.made().about(2));
        }
    }

    static boolean allOfOneSuit(List<Integer> cards) {
        for (int c : cards) {
            if (c / 8 != cards.get(0) / 8) {
                return false;
            }
        }
        return true;
    }

    static void behind3Comes0InBidding() {
        says("PLAYERS: behind 3 comes 0 (bids and passes)");
        DropSignals x = dealt(1);
        due("bid by 0", 1, x.bid(1, 0));
        due("bid by 1", 2, x.bid(1, 1));
        due("bid by 2", 3, x.bid(1, 2));
        due("bid by 3", 0, x.bid(1, 3));
        due("turn behind 3's bid", 0, x.about(2));
        DropSignals y = dealt(1);
        passes(y, 3);
        due("turn behind three passes", 3, y.about(2));
        due("bid by 3", 0, y.bid(1, 0));
        DropSignals z = dealt(1);
        passes(z, 2);
        z.bid(1, 0);
        z.pass();
        due("turn behind 3's pass", 0, z.about(2));
    }

    static void behind3Comes0InPlay() {
        says("PLAYERS: behind 3 comes 0 (tricks)");
        DropSignals x = inPlay(1, 1, 0, 2);
        due("leader behind the declarer 2", 3, x.about(2));
        x.play(x.legal(0));
        due("turn behind 3's card", 0, x.about(2));
        x.play(x.legal(0));
        due("turn behind 0's card", 1, x.about(2));
        x.play(x.legal(0));
        due("turn behind 1's card", 2, x.about(2));
    }

    static void theSides() {
        says("PLAYERS: The players 0 and 2 are the side 0, 1 and 3 the side 1");
        for (int p = 0; p < 4; p++) {
            int winner = p;
            Game g = Game.one(h -> h.cards.size() == 4 && h.turn() == winner);
            DropSignals x = g.made();
            due("about(5) behind a trick of " + p, 1 - p % 2, x.about(5));
            due("about(6) behind a trick of " + p, p % 2, x.about(6));
        }
    }

    static void dealtByNumbers() {
        says("CARDS: To deal with a seed means ..");
        for (int i = 0; i < SEEDS.length; i++) {
            DropSignals x = dealt(SEEDS[i]);
            StringBuilder got = new StringBuilder();
            for (int c = 0; c < 32; c++) {
                got.append(x.cardOf(c, 1));
            }
            alike("the deal with " + SEEDS[i], OWNERS[i], got.toString());
        }
    }

    // ---- A DEAL: bidding

    static void noDealAtFirst() {
        says("A DEAL: There is no deal at first");
        DropSignals x = new DropSignals();
        due("about(0)", 0, x.about(0));
        due("about(1)", 0, x.about(1));
        due("cardOf(0, 1)", NONE, x.cardOf(0, 1));
    }

    static void theFirstToBid() {
        says("A DEAL: the first to bid is the player (the deals so far, without this one) modulo 4");
        DropSignals x = new DropSignals();
        for (int i = 0; i < 10; i++) {
            x.deal(i);
            due("first to bid in the deal " + (i + 1), i % 4, x.about(2));
        }
        x.undo();
        x.undo();
        x.deal(3);
        due("first to bid in the deal 9, behind two that were taken back", 0, x.about(2));
        x.save(0);
        x.deal(4);
        x.deal(4);
        x.restore(0);
        x.deal(5);
        due("first to bid in the deal 10, behind restore()", 1, x.about(2));
    }

    static void theFirstToBidIsNotTheWinnerOfTheDealBefore() {
        says("A DEAL: the first to bid is the player (the deals so far, without this one) modulo 4, behind play too");
        DropSignals x = played(3);
        x.deal(1);
        due("first to bid", 1, x.about(2));
    }

    static void theFirstBidMayBeTheLowest() {
        says("A DEAL: more than those of the latest bid, if there is one");
        due("bid(1, 0) as the first one", 1, dealt(1).bid(1, 0));
        DropSignals x = dealt(1);
        passes(x, 3);
        due("bid(1, 0) behind three passes", 0, x.bid(1, 0));
        DropSignals y = inPlay(1, 4, 4);
        y.deal(2);
        due("bid(1, 0) in the deal behind one with the highest bid", 2, y.bid(1, 0));
    }

    static void aBidHasToBeMore() {
        says("A DEAL: 5 times the level and the suit, together, have to be more than those of the latest bid");
        for (int first = 5; first < 25; first++) {
            for (int second = 5; second < 25; second++) {
                DropSignals x = dealt(1);
                x.bid(first / 5, first % 5);
                int level = second / 5;
                int suit = second % 5;
                String call = "bid(" + level + ", " + suit + ") behind bid(" + first / 5 + ", " + first % 5 + ")";
                refused(call, second > first ? "2" : STATE, () -> x.bid(level, suit));
            }
        }
    }

    static void threePassesBehindABid() {
        says("A DEAL: When three players in a row have passed behind a bid, this is the contract, and play begins");
        DropSignals x = dealt(1);
        x.bid(2, 1);
        x.pass();
        due("about(1) behind one pass", 1, x.about(1));
        x.pass();
        due("about(1) behind two passes", 1, x.about(1));
        due("about(4) behind two passes", NONE, x.about(4));
        x.pass();
        due("about(1) behind three passes", 2, x.about(1));
        due("about(4) behind three passes", 0, x.about(4));
        due("about(3) behind three passes", 21, x.about(3));
    }

    static void threePassesInARow() {
        says("A DEAL: three players in a row: a bid between starts anew");
        DropSignals x = dealt(1);
        x.bid(1, 0);
        passes(x, 2);
        x.bid(1, 1);
        x.pass();
        due("about(1) behind pass, pass, bid, pass", 1, x.about(1));
        x.pass();
        due("about(1) behind one pass more", 1, x.about(1));
        x.pass();
        due("about(1) behind two passes more", 2, x.about(1));
    }

    static void threePassesAheadOfABid() {
        says("A DEAL: behind a bid: three passes ahead of the first bid do not end the bidding, nor count with those behind it");
        DropSignals x = dealt(1);
        passes(x, 3);
        due("about(1) behind three passes", 1, x.about(1));
        x.bid(1, 0);
        due("about(1) behind the bid", 1, x.about(1));
        passes(x, 2);
        due("about(1) behind two passes", 1, x.about(1));
        x.pass();
        due("about(1) behind the third one", 2, x.about(1));
        due("about(4)", 3, x.about(4));
    }

    static void theDeclarerMadeTheLatestBid() {
        says("A DEAL: the player who made it is the declarer");
        for (int declarer = 0; declarer < 4; declarer++) {
            DropSignals x = dealt(1);
            for (int p = 0; p <= declarer; p++) {
                x.bid(1, p);
            }
            passes(x, 3);
            due("declarer behind bids by 0 to " + declarer, declarer, x.about(4));
        }
        DropSignals y = dealt(1);
        y.bid(1, 2);
        passes(y, 1);
        y.bid(2, 2);
        passes(y, 3);
        due("declarer of a suit that the partner named first", 2, y.about(4));
    }

    static void allFourPass() {
        says("A DEAL: If all four pass without a bid, the deal is over, without any score");
        DropSignals x = dealt(1);
        passes(x, 3);
        due("about(1) behind three passes", 1, x.about(1));
        x.pass();
        due("about(1) behind four passes", 3, x.about(1));
        due("about(7)", 0, x.about(7));
        due("about(8)", 0, x.about(8));
        DropSignals y = played(3);
        int[] scores = {y.about(7), y.about(8)};
        y.deal(4);
        passes(y, 4);
        due("about(7) keeps the score of before", scores[0], y.about(7));
        due("about(8) keeps the score of before", scores[1], y.about(8));
    }

    // ---- A DEAL: play

    static void thePlayerBehindTheDeclarerLeads() {
        says("A DEAL: the player behind the declarer leads the first trick");
        for (int declarer = 0; declarer < 4; declarer++) {
            due("leader behind the declarer " + declarer, (declarer + 1) % 4, inPlay(2, 1, 1, declarer).about(2));
        }
    }

    static void biddingThenPlayThenOver() {
        says("A DEAL: In a deal there is bidding, then play, then it is over");
        DropSignals x = dealt(3);
        StringBuilder phases = new StringBuilder().append(x.about(1));
        x.bid(1, 2);
        for (int i = 0; i < 3; i++) {
            phases.append(x.about(1));
            x.pass();
        }
        for (int i = 0; i < 32; i++) {
            phases.append(x.about(1));
            x.play(x.legal(0));
        }
        alike("about(1) ahead of each call and at the end", "1111" + "2".repeat(32) + "3", phases.append(x.about(1)).toString());
    }

    static void eachInTurnPlaysOneCard() {
        says("A DEAL: Each in turn plays one card");
        for (int declarer = 0; declarer < 4; declarer++) {
            Game g = Game.inPlay(6, 1, 4, declarer);
            for (int i = 0; i < 32; i++) {
                DropSignals x = g.made();
                int p = x.about(2);
                due("turn behind " + i + " cards", i % 4 == 0 ? g.now.turn() : (g.now.lastPlayer() + 1) % 4, p);
                int c = x.legal(0);
                due("holder of the card that can be played", p, x.cardOf(c, 0));
                int cards = sizeOf(x, p);
                x.play(c);
                due("cards of the player behind the card", cards - 1, sizeOf(x, p));
                g.play(c);
            }
        }
    }

    static void theLeaderMayPlayAnyCard() {
        says("A DEAL: whoever leads plays any card");
        int[] owner = owners(4);
        for (int c = 0; c < 32; c++) {
            if (owner[c] == 1) {
                due("play(" + c + ") by the first leader", 0, inPlay(4, 1, 1).play(c));
            }
        }
        for (Game g : Game.some(3, h -> h.cards.size() == 4)) {
            for (int c : g.now.hand(g.now.turn())) {
                due("play(" + c + ") by who won the trick", 0, g.made().play(c));
            }
        }
    }

    static void whoeverHasTheSuitHasToFollow() {
        says("A DEAL: whoever has a card of the suit that was led has to play one of these");
        for (Game g : Game.some(8, h -> h.trick().size() > 0 && followers(h) == 1 && h.hand(h.turn()).size() > 4)) {
            int led = g.now.trick().get(0) / 8;
            for (int c : g.now.hand(g.now.turn())) {
                due("play(" + c + ") behind a lead of the suit " + led, c / 8 == led ? 0 : 2, g.made().play(c));
            }
        }
    }

    static int followers(History h) {
        return h.of(h.hand(h.turn()), h.trick().get(0) / 8).size();
    }

    static void otherwiseAnyCard() {
        says("A DEAL: otherwise any card");
        for (Game g : Game.some(8, h -> h.trick().size() > 0 && followers(h) == 0 && h.hand(h.turn()).size() > 3)) {
            for (int c : g.now.hand(g.now.turn())) {
                due("play(" + c + ") without a card of the suit that was led", 0, g.made().play(c));
            }
        }
    }

    static void aTrumpWinsOverTheSuitThatWasLed() {
        says("A DEAL: The trick is won by the highest trump in it");
        for (Game g : Game.some(6, h -> onlyTrump(h) != NONE && h.phase() == 2)) {
            due("winner of " + g.now.lastTrick() + " with trumps " + g.now.trumps(), onlyTrump(g.now), g.made().about(2));
        }
        for (Game g : Game.some(6, h -> isRuffedTwice(h) && h.phase() == 2)) {
            int best = 0;
            for (int c : g.now.lastTrick()) {
                best = c / 8 == g.now.trumps() ? Math.max(best, c) : best;
            }
            int winner = (g.now.lastLeader() + g.now.lastTrick().indexOf(best)) % 4;
            due("winner of " + g.now.lastTrick() + " with trumps " + g.now.trumps(), winner, g.made().about(2));
        }
    }

    /** The player of the only trump in the last trick, if the led suit is another one and has a higher rank in it. */
    static int onlyTrump(History h) {
        if (!h.trickEnded() || h.lastLead() / 8 == h.trumps()) {
            return NONE;
        }
        List<Integer> trumps = h.of(h.lastTrick(), h.trumps());
        boolean low = trumps.size() == 1 && trumps.get(0) % 8 < h.lastLead() % 8;
        return low ? (h.lastLeader() + h.lastTrick().indexOf(trumps.get(0))) % 4 : NONE;
    }

    /** Whether two trumps lie in the last trick, the higher one first. */
    static boolean isRuffedTwice(History h) {
        if (!h.trickEnded() || h.lastLead() / 8 == h.trumps()) {
            return false;
        }
        List<Integer> trumps = h.of(h.lastTrick(), h.trumps());
        return trumps.size() == 2 && trumps.get(0) > trumps.get(1);
    }

    static void withoutATrumpTheSuitThatWasLedWins() {
        says("A DEAL: or, without one, by the highest card of the suit that was led");
        for (Game g : Game.some(8, h -> h.phase() == 2 && hasHigherDiscard(h))) {
            int best = 0;
            for (int c : g.now.lastTrick()) {
                best = c / 8 == g.now.lastLead() / 8 ? Math.max(best, c) : best;
            }
            int winner = (g.now.lastLeader() + g.now.lastTrick().indexOf(best)) % 4;
            due("winner of " + g.now.lastTrick() + " with trumps " + g.now.trumps(), winner, g.made().about(2));
        }
    }

    /** A card of another suit that is no trump has a higher rank and a higher number than all of the led suit. */
    static boolean hasHigherDiscard(History h) {
        if (!h.trickEnded() || !h.of(h.lastTrick(), h.trumps()).isEmpty()) {
            return false;
        }
        List<Integer> led = h.of(h.lastTrick(), h.lastLead() / 8);
        int best = led.get(0);
        for (int c : led) {
            best = Math.max(best, c);
        }
        for (int c : h.lastTrick()) {
            if (c > best && c % 8 > best % 8 && c / 8 != best / 8) {
                return true;
            }
        }
        return false;
    }

    static void withNoTrumpsNoSuitIsTrumps() {
        says("A DEAL: its suit is trumps (with 4 there are none)");
        for (int s = 0; s < 4; s++) {
            int discarded = s;
            Game g = Game.one(h -> h.trumps() == 4 && h.phase() == 2 && h.trickEnded() && h.lastLead() / 8 != discarded
                && h.of(h.lastTrick(), discarded).size() == 1);
            must("the discard of the suit " + s + " did not win", g.now.players().get(g.now.cards.size())
                != (g.now.lastLeader() + g.now.lastTrick().indexOf(g.now.of(g.now.lastTrick(), s).get(0))) % 4);
            due("winner of " + g.now.lastTrick() + " without trumps", g.now.turn(), g.made().about(2));
        }
        for (int s = 0; s < 4; s++) {
            int trumps = s;
            Game g = Game.one(h -> h.trumps() == trumps && h.phase() == 2 && onlyTrump(h) != NONE);
            due("winner of " + g.now.lastTrick() + " with trumps " + s, onlyTrump(g.now), g.made().about(2));
        }
    }

    static void whoWinsATrickLeadsTheNextOne() {
        says("A DEAL: who wins it leads the next one");
        for (int p = 0; p < 4; p++) {
            int winner = p;
            Game g = Game.one(h -> h.trickEnded() && h.cards.size() > 4 && h.turn() == winner && h.lastLeader() != winner);
            DropSignals x = g.made();
            due("turn behind a trick of " + p, p, x.about(2));
            x.play(x.legal(0));
            due("turn behind the lead of " + p, (p + 1) % 4, x.about(2));
        }
    }

    static void with8TricksTheDealIsOver() {
        says("A DEAL: With 8 tricks the deal is over");
        Game g = Game.inPlay(6, 1, 2, 1).playOn(Game.WAYS[0], 31);
        DropSignals x = g.made();
        due("about(1) with 31 cards played", 2, x.about(1));
        due("tricks with 31 cards played", 7, x.about(5) + x.about(6));
        due("scores with 31 cards played", 0, x.about(7) + x.about(8));
        x.play(x.legal(0));
        due("about(1) with 32 cards played", 3, x.about(1));
        due("tricks with 32 cards played", 8, x.about(5) + x.about(6));
        must("a side has a score", x.about(7) + x.about(8) > 0);
    }

    // ---- A DEAL: scores

    /** A deal in which the declarer's side won so many tricks. */
    static Game ended(int declarer, int level, int tricks) {
        for (int seed = 0; seed < 4000; seed++) {
            // Who shall win has the long trumps and plays high, the others play low.
            boolean wins = tricks >= 4;
            Game g = Game.inPlay(seed, level, longest(owners(seed), wins ? declarer : declarer + 1), declarer);
            g.playOn(h -> h.turn() % 2 == declarer % 2 == wins ? Game.highRank(h) : Game.lowRank(h), 32);
            if (g.now.tricks(declarer % 2) == tricks) {
                return g;
            }
        }
        throw new IllegalStateException("no deal with " + tricks + " tricks");
    }

    static int longest(int[] owner, int p) {
        int[] sizes = new int[4];
        for (int c = 0; c < 32; c++) {
            sizes[c / 8] += owner[c] % 2 == p % 2 ? 1 : 0;
        }
        int best = 0;
        for (int s = 1; s < 4; s++) {
            best = sizes[s] > sizes[best] ? s : best;
        }
        return best;
    }

    static void scoreOf(int declarer, int level, int tricks, int own, int others) {
        DropSignals x = ended(declarer, level, tricks).made();
        String contract = "level " + level + " by " + declarer + ", " + tricks + " tricks";
        due("tricks of the declarer's side: " + contract, tricks, x.about(5 + declarer % 2));
        due("score of the declarer's side: " + contract, own, x.about(7 + declarer % 2));
        due("score of the other side: " + contract, others, x.about(8 - declarer % 2));
    }

    static void justEnoughTricksScore() {
        says("A DEAL: this side scores 10 * the level + 2 * (t - n) if t is n");
        scoreOf(0, 1, 5, 10, 0);
        scoreOf(1, 1, 5, 10, 0);
        scoreOf(2, 2, 6, 20, 0);
        scoreOf(3, 3, 7, 30, 0);
        scoreOf(0, 4, 8, 40, 0);
        scoreOf(1, 4, 8, 40, 0);
    }

    static void moreTricksScoreMore() {
        says("A DEAL: this side scores 10 * the level + 2 * (t - n) if t is more");
        scoreOf(0, 1, 6, 12, 0);
        scoreOf(1, 1, 8, 16, 0);
        scoreOf(2, 2, 7, 22, 0);
        scoreOf(3, 2, 8, 24, 0);
        scoreOf(0, 3, 8, 32, 0);
    }

    static void tooFewTricksScoreForTheOtherSide() {
        says("A DEAL: otherwise the other side scores 10 * (n - t)");
        scoreOf(0, 1, 4, 0, 10);
        scoreOf(1, 1, 4, 0, 10);
        scoreOf(2, 4, 7, 0, 10);
        scoreOf(3, 2, 4, 0, 20);
        scoreOf(0, 1, 0, 0, 50);
        scoreOf(1, 4, 0, 0, 80);
    }

    static void aDealIsScoredBesideTheDealsBefore() {
        says("A DEAL: scores: the scores of the sides so far");
        Game g = ended(0, 1, 5);
        g.deal(11).contract(1, 4, 0).playOn(Game.WAYS[2], 32);
        DropSignals x = g.made();
        due("about(7)", g.now.score0, x.about(7));
        due("about(8)", g.now.score1, x.about(8));
        must("both deals scored", g.now.score0 + g.now.score1 > 10);
    }

    // ---- A DEAL: cards that cannot be played

    static void theFirstReason() {
        says("A DEAL: A card cannot be played for the first of these reasons: 1: the player does not have it");
        Game g = Game.one(h -> h.cards.size() == 5 && followers(h) > 0 && h.of(h.hand(h.turn()), h.trick().get(0) / 8).size() < 8);
        int led = g.now.trick().get(0) / 8;
        for (int c = 0; c < 32; c++) {
            int holder = g.now.holder(c);
            if (holder != g.now.turn()) {
                // Of the suit that was led or of another one, held by another player or played: the first reason is 1.
                due("play(" + c + ") behind a lead of the suit " + led, 1, g.made().play(c));
            }
        }
    }

    static void theSecondReason() {
        says("A DEAL: 2: the player has to follow, and it is of another suit than the one that was led");
        Game g = Game.one(h -> h.cards.size() == 6 && followers(h) > 0);
        int led = g.now.trick().get(0) / 8;
        for (int c : g.now.hand(g.now.turn())) {
            due("play(" + c + ") behind a lead of the suit " + led, c / 8 == led ? 0 : 2, g.made().play(c));
        }
    }

    static void trumpsDoNotFreeFromFollowing() {
        says("A DEAL: A player has to follow, with trumps in hand too");
        Game g = Game.one(h -> h.trick().size() == 1 && followers(h) > 0 && h.trick().get(0) / 8 != h.trumps()
            && h.of(h.hand(h.turn()), h.trumps()).size() > 0);
        int trump = g.now.of(g.now.hand(g.now.turn()), g.now.trumps()).get(0);
        due("play() of a trump by who has to follow", 2, g.made().play(trump));
    }

    // ---- SIGNALS

    static void ranksUpTo3AreSmall() {
        says("SIGNALS: A small card has a rank of 0 to 3");
        for (int rank = 0; rank < 8; rank++) {
            int r = rank;
            Game g = Game.one(h -> h.lastFollowed() && h.last() % 8 == r && h.dealt(h.lastPlayer(), h.last() / 8) > 1
                && firstOfSuit(h));
            due("drops behind a first card of rank " + rank, rank <= 3 ? 1 : 0,
                g.made().suitOf(g.now.lastPlayer(), g.now.last() / 8, 2));
        }
    }

    /** Whether the last card is the first that its player played of its suit. */
    static boolean firstOfSuit(History h) {
        return playedBy(h, h.lastPlayer(), h.last() / 8).size() == 1;
    }

    static List<Integer> playedBy(History h, int p, int s) {
        List<Integer> cards = new ArrayList<>();
        for (int i = 0; i < h.cards.size(); i++) {
            if (h.players().get(i) == p && h.cards.get(i) / 8 == s) {
                cards.add(h.cards.get(i));
            }
        }
        return cards;
    }

    static void theLeadIsNoDrop() {
        says("SIGNALS: A drop is a small card .. played by a player who follows (not by the one who leads)");
        for (Game g : Game.some(4, h -> h.lastLed() && h.last() % 8 <= 3 && firstOfSuit(h))) {
            due("drops behind a small lead", 0, g.made().suitOf(g.now.lastPlayer(), g.now.last() / 8, 2));
        }
        for (Game g : Game.some(4, h -> h.lastLed() && h.last() % 8 <= 3 && h.drops(h.lastPlayer(), h.last() / 8).size() == 1)) {
            due("drops behind a drop and a small lead", 1, g.made().suitOf(g.now.lastPlayer(), g.now.last() / 8, 2));
            due("signal behind a drop and a small lead", 0, g.made().suitOf(g.now.lastPlayer(), g.now.last() / 8, 3));
        }
    }

    static void aCardOfAnotherSuitIsNoDrop() {
        says("SIGNALS: A drop is a small card of the suit that was led");
        for (Game g : Game.some(6, h -> !h.lastLed() && !h.cards.isEmpty() && !h.lastFollowed() && h.last() % 8 <= 3
            && firstOfSuit(h) && playedBy(h, h.lastPlayer(), h.lastLead() / 8).isEmpty())) {
            DropSignals x = g.made();
            due("drops in the suit of a small discard", 0, x.suitOf(g.now.lastPlayer(), g.now.last() / 8, 2));
            due("drops in the suit that was led", 0, x.suitOf(g.now.lastPlayer(), g.now.lastLead() / 8, 2));
        }
    }

    static void smallTrumpsOnAnotherSuitAreNoDrops() {
        says("SIGNALS: A drop is a small card of the suit that was led: a small trump on another suit is none");
        Game g = Game.one(h -> !h.lastLed() && !h.cards.isEmpty() && !h.lastFollowed() && h.last() % 8 <= 3
            && h.last() / 8 == h.trumps() && firstOfSuit(h));
        due("drops behind a small trump", 0, g.made().suitOf(g.now.lastPlayer(), g.now.trumps(), 2));
    }

    static boolean dropped(History h, int times) {
        return h.lastFollowed() && h.last() % 8 <= 3 && h.drops(h.lastPlayer(), h.last() / 8).size() == times;
    }

    static int signalIn(Game g, int what) {
        return g.made().suitOf(g.now.lastPlayer(), g.now.last() / 8, what);
    }

    static void oneDropIsNoSignal() {
        says("SIGNALS: When a player has made two drops of a suit in a deal, this is a signal");
        for (Game g : Game.some(4, h -> dropped(h, 1))) {
            due("signal behind one drop", 0, signalIn(g, 3));
            due("drops", 1, signalIn(g, 2));
        }
        for (Game g : Game.some(4, h -> dropped(h, 2))) {
            must("signal behind two drops", signalIn(g, 3) != 0);
            due("drops", 2, signalIn(g, 2));
            due("signals", g.back().made().about(9) + 1, g.made().about(9));
        }
    }

    static boolean firstWasHigher(History h) {
        List<Integer> drops = h.drops(h.lastPlayer(), h.last() / 8);
        return drops.get(0) > drops.get(1);
    }

    static void evenIfTheFirstOneWasHigher() {
        says("SIGNALS: even, if the first one was higher than the second one, otherwise odd");
        for (Game g : Game.some(5, h -> dropped(h, 2) && firstWasHigher(h))) {
            due("signal, the higher one first", 2, signalIn(g, 3));
        }
        for (Game g : Game.some(5, h -> dropped(h, 2) && !firstWasHigher(h))) {
            due("signal, the lower one first", 1, signalIn(g, 3));
        }
    }

    static void signalsThatAreTrueAndThatLie() {
        says("SIGNALS: It is true if the player was dealt an even, or odd, number of cards of that suit; otherwise it lies");
        for (int i = 0; i < 4; i++) {
            boolean higherFirst = i % 2 == 0;
            boolean dealtEven = i / 2 == 0;
            int truth = higherFirst == dealtEven ? 1 : 0;
            for (Game g : Game.some(3, h -> dropped(h, 2) && firstWasHigher(h) == higherFirst
                && h.dealt(h.lastPlayer(), h.last() / 8) % 2 == 0 == dealtEven)) {
                String situation = ", higher first " + higherFirst + ", dealt even " + dealtEven;
                due("truth" + situation, truth, signalIn(g, 4));
                due("true signals" + situation, g.back().made().about(10) + truth, g.made().about(10));
                due("signals" + situation, g.back().made().about(9) + 1, g.made().about(9));
            }
        }
    }

    static void theNumberIsThatOfTheCardsDealt() {
        says("SIGNALS: the number that was dealt, not the number that is left");
        for (Game g : Game.some(4, h -> dropped(h, 2)
            && (h.dealt(h.lastPlayer(), h.last() / 8) - h.of(h.hand(h.lastPlayer()), h.last() / 8).size()) % 2 == 1)) {
            boolean isTrue = firstWasHigher(g.now) == (g.now.dealt(g.now.lastPlayer(), g.now.last() / 8) % 2 == 0);
            due("truth behind three cards of the suit", isTrue ? 1 : 0, signalIn(g, 4));
        }
    }

    static void furtherDropsTellNothing() {
        says("SIGNALS: (Further drops of the suit tell nothing.)");
        for (int drops = 3; drops <= 4; drops++) {
            int n = drops;
            for (int higher = 0; higher < 2; higher++) {
                boolean first = higher == 1;
                Game g = manyDrops(n, first);
                due("signal behind " + n + " drops", first ? 2 : 1, signalIn(g, 3));
                due("drops", n, signalIn(g, 2));
                due("signals", g.back().made().about(9), g.made().about(9));
                due("true signals", g.back().made().about(10), g.made().about(10));
            }
        }
    }

    /** A player who was dealt all small cards of a suit drops so many of them, the higher or the lower of the first two first. */
    static Game manyDrops(int drops, boolean higherFirst) {
        int[] ranks = higherFirst ? new int[] {1, 0, 2, 3} : new int[] {0, 1, 2, 3};
        return dropsInOrder(n -> n >= 4, Arrays.copyOf(ranks, drops));
    }

    /** A player who was dealt all small cards of a suit, and so many cards of it, drops these ranks one behind the other. */
    static Game dropsInOrder(IntPredicate dealt, int... ranks) {
        for (int seed = 0; seed < 20000; seed++) {
            int[] owner = owners(seed);
            for (int s = 0; s < 4; s++) {
                int p = owner[8 * s];
                int cards = 0;
                for (int c = 8 * s; c < 8 * s + 8; c++) {
                    cards += owner[c] == p ? 1 : 0;
                }
                boolean all = owner[8 * s + 1] == p && owner[8 * s + 2] == p && owner[8 * s + 3] == p;
                Game g = all && dealt.test(cards) ? droppedInOrder(seed, p, s, ranks) : null;
                if (g != null) {
                    return g;
                }
            }
        }
        throw new IllegalStateException("no deal with " + ranks.length + " drops");
    }

    private static Game droppedInOrder(long seed, int p, int s, int[] ranks) {
        for (int declarer = 0; declarer < 4; declarer++) {
            Game g = Game.inPlay(seed, 1, 4, declarer);
            int drops = 0;
            while (g.now.phase() == 2) {
                boolean drop = g.now.turn() == p && !g.now.trick().isEmpty() && g.now.trick().get(0) / 8 == s;
                g.play(drop ? 8 * s + ranks[drops] : g.now.turn() == p ? Game.highRank(g.now) : leadOf(g.now, s));
                drops += drop ? 1 : 0;
                if (drops == ranks.length) {
                    return g.now.drops(p, s).size() == drops ? g : null;
                }
            }
        }
        return null;
    }

    /** A card of the suit s, where it can be led; who has to follow plays low. */
    static int leadOf(History h, int s) {
        List<Integer> suit = h.of(h.legal(), s);
        return suit.isEmpty() ? h.legal().get(0) : h.trick().isEmpty() ? suit.get(suit.size() - 1) : suit.get(0);
    }

    static void dropsOfAnotherDealDoNotCount() {
        says("SIGNALS: two drops of a suit in a deal");
        Game found = null;
        for (int seed = 0; seed < 200 && found == null; seed++) {
            Game g = Game.one(h -> dropped(h, 1));
            int p = g.now.lastPlayer();
            int s = g.now.last() / 8;
            g.deal(seed).contract(1, 4, 0);
            while (g.now.phase() == 2 && found == null) {
                g.play(g.now.advice());
                found = g.now.lastPlayer() == p && g.now.last() / 8 == s && dropped(g.now, 1) ? g : null;
            }
        }
        due("drops behind one in each of two deals", 1, signalIn(found, 2));
        due("signal behind one in each of two deals", 0, signalIn(found, 3));
        due("signals", found.back().made().about(9), found.made().about(9));
    }

    static void dropsOfTwoSuitsAreNoSignal() {
        says("SIGNALS: two drops of a suit: one each of two suits are none");
        Game g = Game.one(h -> {
            int p = h.lastPlayer();
            int ones = 0;
            for (int s = 0; s < 4 && p != NONE; s++) {
                ones += h.drops(p, s).size() == 1 ? 1 : 0;
            }
            return ones >= 2;
        });
        for (int s = 0; s < 4; s++) {
            int want = g.now.drops(g.now.lastPlayer(), s).size() < 2 ? 0 : g.now.signal(g.now.lastPlayer(), s);
            due("signal in the suit " + s, want, g.made().suitOf(g.now.lastPlayer(), s, 3));
        }
    }

    static void dropsOfTwoPlayersAreNoSignal() {
        says("SIGNALS: When a player has made two drops: one each of two players are none");
        Game g = Game.one(h -> h.cards.size() <= 4 && dropped(h, 1) && ones(h, h.last() / 8) >= 2);
        for (int p = 0; p < 4; p++) {
            due("signal of the player " + p, 0, g.made().suitOf(p, g.now.last() / 8, 3));
        }
        due("signals", 0, g.made().about(9));
    }

    static int ones(History h, int s) {
        int ones = 0;
        for (int p = 0; p < 4; p++) {
            ones += h.drops(p, s).size() == 1 ? 1 : 0;
        }
        return ones;
    }

    public static void main(String[] args) {
        runAll(TermsTests.class);
    }
}

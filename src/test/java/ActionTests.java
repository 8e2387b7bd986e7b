/** The promises 10 to 13, actions: a test for each sentence that names a boundary. (Promise 14 is with the undo tests.) */
public final class ActionTests extends Checks {
    // ---- promise 10: deal

    static void anyLongIsASeed() {
        says("promise 10: seed: any long");
        long[] seeds = {0, 1, -1, 2, -2, Integer.MAX_VALUE, Integer.MIN_VALUE, 1L << 31, 1L << 32, 1L << 62,
            Long.MAX_VALUE, Long.MAX_VALUE - 1, Long.MIN_VALUE, Long.MIN_VALUE + 1, 1234567890123456789L};
        for (long seed : seeds) {
            DropSignals x = new DropSignals();
            due("deal(" + seed + ")", 1, x.deal(seed));
            for (int c = 0; c < 32; c++) {
                due("cardOf(" + c + ", 1) behind deal(" + seed + ")", owners(seed)[c], x.cardOf(c, 1));
            }
        }
    }

    static void dealsWhateverThereIs() {
        says("promise 10: Deals, whatever there is of the deal so far");
        DropSignals[] before = {new DropSignals(), dealt(1), bidBy0(), inPlay(1, 1, 1), advance(inPlay(1, 1, 1), 17),
            advance(inPlay(1, 1, 1), 31), played(1), allPassed(1)};
        for (DropSignals x : before) {
            int deals = x.about(0);
            String where = " behind " + deals + " deals with about(1) " + x.about(1);
            due("deal(9)" + where, deals + 1, x.deal(9));
            due("about(0)" + where, deals + 1, x.about(0));
            due("about(1)" + where, 1, x.about(1));
            due("about(2)" + where, deals % 4, x.about(2));
            due("about(3)" + where, 0, x.about(3));
            due("about(4)" + where, NONE, x.about(4));
            due("about(5)" + where, 0, x.about(5));
            due("about(6)" + where, 0, x.about(6));
            for (int c = 0; c < 32; c++) {
                due("cardOf(" + c + ", 0)" + where, owners(9)[c], x.cardOf(c, 0));
                due("cardOf(" + c + ", 2)" + where, NONE, x.cardOf(c, 2));
            }
            due("bid(1, 0)" + where, (deals + 1) % 4, x.bid(1, 0));
        }
    }

    static DropSignals bidBy0() {
        DropSignals x = dealt(1);
        x.bid(2, 2);
        x.pass();
        x.pass();
        return x;
    }

    static void aDealThatIsNotOverScoresNothing() {
        says("promise 10: (which scores nothing then, if it is not over)");
        for (int cards : new int[] {0, 4, 20, 31}) {
            DropSignals x = advance(inPlay(1, 1, 1), cards);
            x.deal(2);
            due("scores behind a deal that was cut off with " + cards + " cards played", 0, x.about(7) + x.about(8));
        }
        DropSignals over = played(1);
        int[] scores = {over.about(7), over.about(8)};
        over.deal(2);
        due("about(7) behind a deal that is over", scores[0], over.about(7));
        due("about(8) behind a deal that is over", scores[1], over.about(8));
        must("it scored", scores[0] + scores[1] > 0);
    }

    static void dealAnswersTheDealsSoFar() {
        says("promise 10: Returns the deals so far then");
        DropSignals x = new DropSignals();
        for (int i = 1; i <= 20; i++) {
            due("deal() number " + i, i, x.deal(1));
        }
        x.undo();
        x.undo();
        due("deal() behind two undo()", 19, x.deal(1));
    }

    // ---- promise 11: bid

    static void theLevelOfABid() {
        says("promise 11: level: 1 to 4; IllegalArgumentException if level or suit is out of range");
        for (int level : new int[] {0, -1, 5, 6, Integer.MIN_VALUE, Integer.MAX_VALUE, 858993460}) {
            refused("bid(" + level + ", 0)", ARGUMENT, () -> dealt(1).bid(level, 0));
            refused("bid(" + level + ", 4)", ARGUMENT, () -> dealt(1).bid(level, 4));
        }
        for (int level = 1; level <= 4; level++) {
            due("bid(" + level + ", 0)", 1, dealt(1).bid(level, 0));
        }
    }

    static void theSuitOfABid() {
        says("promise 11: suit: 0 to 4; IllegalArgumentException if level or suit is out of range");
        for (int suit : new int[] {-1, 5, 6, Integer.MIN_VALUE, Integer.MAX_VALUE}) {
            refused("bid(1, " + suit + ")", ARGUMENT, () -> dealt(1).bid(1, suit));
            refused("bid(4, " + suit + ")", ARGUMENT, () -> dealt(1).bid(4, suit));
        }
        for (int suit = 0; suit <= 4; suit++) {
            due("bid(4, " + suit + ")", 1, dealt(1).bid(4, suit));
        }
    }

    static void bidAnswersThePlayerWhoIsNext() {
        says("promise 11: Returns the player who is next");
        for (int first = 0; first < 4; first++) {
            DropSignals x = new DropSignals();
            for (int i = 0; i <= first; i++) {
                x.deal(i);
            }
            for (int i = 0; i < 20; i++) {
                due("bid number " + i + " from " + first, (first + i + 1) % 4, x.bid(1 + i / 5, i % 5));
                due("about(2)", (first + i + 1) % 4, x.about(2));
            }
            due("about(1) behind the highest bid", 1, x.about(1));
        }
    }

    static void thereIsNoBidding() {
        says("promise 11: IllegalStateException if there is no bidding");
        refused("bid(1, 0) without a deal", STATE, () -> new DropSignals().bid(1, 0));
        refused("bid(4, 4) in play", STATE, () -> inPlay(1, 1, 0).bid(4, 4));
        refused("bid(4, 4) at the end", STATE, () -> played(1).bid(4, 4));
        refused("bid(4, 4) behind four passes", STATE, () -> allPassed(1).bid(4, 4));
    }

    static void theBidIsNotMore() {
        says("promise 11: IllegalStateException if .. the bid is not more than the latest one");
        DropSignals x = dealt(1);
        x.bid(2, 2);
        x.pass();
        refused("bid(2, 2) behind bid(2, 2)", STATE, () -> x.bid(2, 2));
        refused("bid(2, 1) behind bid(2, 2)", STATE, () -> x.bid(2, 1));
        refused("bid(1, 4) behind bid(2, 2)", STATE, () -> x.bid(1, 4));
        due("about(2) behind them", 2, x.about(2));
        due("bid(2, 3) behind bid(2, 2)", 3, x.bid(2, 3));
        x.bid(4, 4);
        refused("bid(4, 4) behind bid(4, 4)", STATE, () -> x.bid(4, 4));
    }

    // ---- promise 12: pass

    static void passAnswersWhereTheDealStands() {
        says("promise 12: Returns 1 if there is bidding still, 2 if play begins, 3 if the deal is over");
        DropSignals x = dealt(1);
        for (int i = 1; i <= 3; i++) {
            due("pass() number " + i + " without a bid", 1, x.pass());
        }
        due("pass() number 4 without a bid", 3, x.pass());
        for (int ahead = 0; ahead < 4; ahead++) {
            DropSignals y = dealt(1);
            passes(y, ahead);
            y.bid(1, 0);
            due("pass() number 1 behind the bid of " + ahead, 1, y.pass());
            due("pass() number 2 behind the bid of " + ahead, 1, y.pass());
            due("pass() number 3 behind the bid of " + ahead, 2, y.pass());
        }
    }

    static void thePlayerWhoseTurnItIsPasses() {
        says("promise 12: The player whose turn it is passes");
        DropSignals x = dealt(1);
        for (int i = 0; i < 3; i++) {
            due("about(2)", i, x.about(2));
            x.pass();
        }
        due("about(2)", 3, x.about(2));
    }

    static void passWithoutBidding() {
        says("promise 12: IllegalStateException if there is no bidding");
        refused("pass() without a deal", STATE, () -> new DropSignals().pass());
        refused("pass() in play", STATE, () -> inPlay(1, 1, 0).pass());
        refused("pass() at the end", STATE, () -> played(1).pass());
        refused("pass() behind four passes", STATE, () -> allPassed(1).pass());
    }

    // ---- promise 13: play

    static void theCardOfPlay() {
        says("promise 13: IndexOutOfBoundsException if there is no such card");
        for (int c : new int[] {-1, 32, Integer.MIN_VALUE, Integer.MAX_VALUE}) {
            refused("play(" + c + ") without a deal", INDEX, () -> new DropSignals().play(c));
            refused("play(" + c + ") in bidding", INDEX, () -> dealt(1).play(c));
            refused("play(" + c + ") in play", INDEX, () -> inPlay(1, 1, 1).play(c));
            refused("play(" + c + ") at the end", INDEX, () -> played(1).play(c));
        }
        for (int declarer = 0; declarer < 4; declarer++) {
            int p = (declarer + 1) % 4;
            int[] owner = owners(1);
            due("play(0) by " + p, owner[0] == p ? 0 : 1, inPlay(1, 1, 1, declarer).play(0));
            due("play(31) by " + p, owner[31] == p ? 0 : 1, inPlay(1, 1, 1, declarer).play(31));
        }
    }

    static void thereIsNoPlay() {
        says("promise 13: IllegalStateException if there is no play");
        refused("play(0) without a deal", STATE, () -> new DropSignals().play(0));
        refused("play(31) in bidding", STATE, () -> dealt(1).play(31));
        refused("play(0) at the end", STATE, () -> played(1).play(0));
        refused("play(0) behind four passes", STATE, () -> allPassed(1).play(0));
    }

    static void aCardThatIsPlayed() {
        says("promise 13: Returns 0 if it is played, and then it lies in the trick");
        DropSignals x = inPlay(1, 1, 1);
        for (int i = 0; i < 32; i++) {
            int c = x.legal(0);
            due("play(" + c + ")", 0, x.play(c));
            due("cardOf(" + c + ", 2)", i, x.cardOf(c, 2));
            due("cardOf(" + c + ", 0)", NONE, x.cardOf(c, 0));
        }
        due("about(1)", 3, x.about(1));
        due("about(11)", 0, x.about(11));
    }

    static void aCardThatWasPlayedIsNotHad() {
        says("promise 13: otherwise the reason why not: 1 for a card that was played already");
        Game g = Game.inPlay(1, 1, 1, 0).playOn(Game.WAYS[0], 29);
        for (int c : g.now.cards) {
            due("play(" + c + ") again", 1, g.made().play(c));
        }
    }

    static void aRefusedCardLeavesTheTurn() {
        says("promise 13: otherwise the reason why not: it is the same player's turn still");
        Game g = Game.one(h -> h.trick().size() == 2 && TermsTests.followers(h) == 1 && h.hand(h.turn()).size() > 2);
        DropSignals x = g.made();
        int other = NONE;
        for (int c : g.now.hand(g.now.turn())) {
            other = c / 8 != g.now.trick().get(0) / 8 ? c : other;
        }
        due("play() of another suit", 2, x.play(other));
        due("about(2)", g.now.turn(), x.about(2));
        due("trick(2)", NONE, x.trick(2));
        due("cardOf(.., 0)", g.now.turn(), x.cardOf(other, 0));
        due("suitOf(.., 5)", 0, x.suitOf(g.now.turn(), g.now.trick().get(0) / 8, 5));
        due("play() of a card that follows", 0, x.play(x.legal(0)));
        due("about(11)", 1, x.about(11));
    }

    public static void main(String[] args) {
        runAll(ActionTests.class);
    }
}

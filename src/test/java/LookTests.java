import java.util.List;

/** The promises 6 to 9, what there is: a test for each sentence that names a boundary. */
public final class LookTests extends Checks {
    // ---- promise 6: about

    static void whatOfAbout() {
        says("promise 6: IllegalArgumentException if what is not 0 to 11");
        DropSignals x = dealt(1);
        for (int what : new int[] {-1, 12, Integer.MIN_VALUE, Integer.MAX_VALUE}) {
            refused("about(" + what + ")", ARGUMENT, () -> x.about(what));
        }
        due("about(0)", 1, x.about(0));
        due("about(11)", 0, x.about(11));
    }

    static void theDealsSoFar() {
        says("promise 6: 0: the deals so far");
        DropSignals x = new DropSignals();
        due("about(0) without a deal", 0, x.about(0));
        for (int i = 1; i <= 5; i++) {
            x.deal(3);
            due("about(0) behind " + i + " deals", i, x.about(0));
        }
        passes(x, 4);
        due("about(0) behind a deal that is over", 5, x.about(0));
        due("about(0) behind a whole deal", 1, played(3).about(0));
    }

    static void whereTheDealStands() {
        says("promise 6: 1: 0 without a deal, 1 in bidding, 2 in play, 3 if the deal is over");
        due("about(1) without a deal", 0, new DropSignals().about(1));
        due("about(1) in bidding", 1, dealt(1).about(1));
        DropSignals bid = dealt(1);
        bid.bid(4, 4);
        due("about(1) behind the highest bid", 1, bid.about(1));
        due("about(1) in play", 2, inPlay(1, 1, 1).about(1));
        due("about(1) ahead of the last card", 2, advance(inPlay(1, 1, 1), 31).about(1));
        due("about(1) behind the last card", 3, played(1).about(1));
        due("about(1) behind four passes", 3, allPassed(1).about(1));
        DropSignals again = played(1);
        again.deal(1);
        due("about(1) in the next deal", 1, again.about(1));
    }

    static void thePlayerWhoseTurnItIs() {
        says("promise 6: 2: the player whose turn it is, NONE but in bidding and play");
        due("about(2) without a deal", NONE, new DropSignals().about(2));
        due("about(2) in bidding", 0, dealt(1).about(2));
        due("about(2) in play", 1, inPlay(1, 1, 1).about(2));
        due("about(2) behind four passes", NONE, allPassed(1).about(2));
        due("about(2) behind the last card", NONE, played(1).about(2));
        must("about(2) ahead of the last card is a player", advance(inPlay(1, 1, 1), 31).about(2) >= 0);
    }

    static void theLatestBid() {
        says("promise 6: 3: the latest bid, 10 times its level and its suit, together, 0 without one in this deal");
        due("about(3) without a deal", 0, new DropSignals().about(3));
        DropSignals x = dealt(1);
        due("about(3) without a bid", 0, x.about(3));
        x.pass();
        due("about(3) behind a pass", 0, x.about(3));
        x.bid(1, 0);
        due("about(3) behind bid(1, 0)", 10, x.about(3));
        x.bid(1, 4);
        due("about(3) behind bid(1, 4)", 14, x.about(3));
        x.pass();
        due("about(3) behind a pass", 14, x.about(3));
        x.bid(4, 4);
        due("about(3) behind bid(4, 4)", 44, x.about(3));
        passes(x, 3);
        due("about(3) in play", 44, x.about(3));
        advance(x, 32);
        due("about(3) behind the last card", 44, x.about(3));
        x.deal(1);
        due("about(3) in the next deal", 0, x.about(3));
        passes(x, 4);
        due("about(3) behind four passes", 0, x.about(3));
    }

    static void theDeclarer() {
        says("promise 6: 4: the declarer, NONE ahead of the play, and if there is no contract");
        due("about(4) without a deal", NONE, new DropSignals().about(4));
        DropSignals x = dealt(1);
        due("about(4) without a bid", NONE, x.about(4));
        x.bid(1, 1);
        due("about(4) behind a bid", NONE, x.about(4));
        passes(x, 2);
        due("about(4) behind two passes", NONE, x.about(4));
        x.pass();
        due("about(4) in play", 0, x.about(4));
        advance(x, 31);
        due("about(4) ahead of the last card", 0, x.about(4));
        advance(x, 1);
        due("about(4) behind the last card", 0, x.about(4));
        x.deal(1);
        due("about(4) in the next deal", NONE, x.about(4));
        passes(x, 4);
        due("about(4) without a contract", NONE, x.about(4));
    }

    static void theTricksInThisDeal() {
        says("promise 6: 5: tricks won so far by the side 0 in this deal; 6: by the side 1");
        due("tricks without a deal", 0, new DropSignals().about(5) + new DropSignals().about(6));
        for (Game g : Game.some(4, h -> h.phase() == 3 && h.tricks(0) > 1 && h.tricks(1) > 1)) {
            DropSignals x = g.made();
            due("about(5)", g.now.tricks(0), x.about(5));
            due("about(6)", 8 - g.now.tricks(0), x.about(6));
            x.deal(1);
            due("about(5) in the next deal", 0, x.about(5));
            due("about(6) in the next deal", 0, x.about(6));
        }
        DropSignals y = advance(inPlay(1, 1, 1), 3);
        due("tricks behind three cards", 0, y.about(5) + y.about(6));
        advance(y, 1);
        due("tricks behind four cards", 1, y.about(5) + y.about(6));
        advance(y, 3);
        due("tricks behind seven cards", 1, y.about(5) + y.about(6));
        advance(y, 1);
        due("tricks behind eight cards", 2, y.about(5) + y.about(6));
    }

    static void theScoresSoFar() {
        says("promise 6: 7 and 8: the scores of the sides 0 and 1 so far");
        DropSignals x = new DropSignals();
        due("scores without a deal", 0, x.about(7) + x.about(8));
        Game g = new Game();
        for (int i = 0; i < 6; i++) {
            g.deal(i).contract(1, i % 5, i % 4).playOn(Game.WAYS[i % 3], 32);
            due("about(7) behind " + (i + 1) + " deals", g.now.score0, g.made().about(7));
            due("about(8) behind " + (i + 1) + " deals", g.now.score1, g.made().about(8));
        }
        must("both sides scored", g.now.score0 > 0 && g.now.score1 > 0);
        g.deal(7);
        due("about(7) in the next deal", g.now.score0, g.made().about(7));
        due("about(8) in the next deal", g.now.score1, g.made().about(8));
    }

    static void theSignalsInAllDeals() {
        says("promise 6: 9: the signals so far, in all deals; 10: those of them that are true");
        due("about(9) without a deal", 0, new DropSignals().about(9));
        due("about(10) without a deal", 0, new DropSignals().about(10));
        Game g = new Game();
        for (int i = 0; i < 9; i++) {
            g.deal(i).contract(1, 4, 0).playOn(Game.WAYS[i % 3], 32);
            due("about(9) behind " + (i + 1) + " deals", g.now.signals, g.made().about(9));
            due("about(10) behind " + (i + 1) + " deals", g.now.trues, g.made().about(10));
        }
        must("there were true ones and others", g.now.trues > 0 && g.now.signals > g.now.trues);
    }

    static void theSignalsOfADealThatIsCutOff() {
        says("promise 6: 9: in all deals: those of a deal that is not over count too");
        Game g = Game.one(h -> h.phase() == 2 && h.signals > h.trues && h.trues > 0);
        int signals = g.now.signals;
        int trues = g.now.trues;
        DropSignals x = g.made();
        x.deal(1);
        due("about(9)", signals, x.about(9));
        due("about(10)", trues, x.about(10));
    }

    static void howOftenPlayWasRefused() {
        says("promise 6: 11: how often play() was refused so far");
        due("about(11) without a deal", 0, new DropSignals().about(11));
        DropSignals x = inPlay(1, 1, 1);
        for (int i = 1; i <= 20; i++) {
            x.play(firstNotOf(x, 1));
            due("about(11) behind " + i + " refused cards", i, x.about(11));
        }
        x.play(x.legal(0));
        due("about(11) behind a card that was played", 20, x.about(11));
        Game g = Game.one(h -> h.cards.size() == 1 && TermsTests.followers(h) == 1);
        DropSignals y = g.made();
        for (int c : g.now.hand(g.now.turn())) {
            if (c / 8 != g.now.trick().get(0) / 8) {
                y.play(c);
            }
        }
        due("about(11) behind cards that do not follow", 7, y.about(11));
        y.deal(1);
        due("about(11) in the next deal", 7, y.about(11));
    }

    static void aCallThatThrowsIsNotRefused() {
        says("promise 6: 11: a play() that throws was not refused");
        DropSignals x = dealt(1);
        refused("play(0) in bidding", STATE, () -> x.play(0));
        due("about(11)", 0, x.about(11));
        DropSignals y = inPlay(1, 1, 1);
        refused("play(32)", INDEX, () -> y.play(32));
        refused("play(-1)", INDEX, () -> y.play(-1));
        due("about(11)", 0, y.about(11));
    }

    // ---- promise 7: cardOf

    static void theCardOfCardOf() {
        says("promise 7: IndexOutOfBoundsException if there is no such card");
        DropSignals x = dealt(1);
        for (int c : new int[] {-1, 32, Integer.MIN_VALUE, Integer.MAX_VALUE}) {
            for (int what = 0; what < 3; what++) {
                int w = what;
                refused("cardOf(" + c + ", " + w + ")", INDEX, () -> x.cardOf(c, w));
            }
        }
        due("cardOf(0, 1)", owners(1)[0], x.cardOf(0, 1));
        due("cardOf(31, 1)", owners(1)[31], x.cardOf(31, 1));
    }

    static void whatOfCardOf() {
        says("promise 7: IllegalArgumentException if what is not 0 to 2");
        DropSignals x = dealt(1);
        for (int what : new int[] {-1, 3, Integer.MIN_VALUE, Integer.MAX_VALUE}) {
            refused("cardOf(0, " + what + ")", ARGUMENT, () -> x.cardOf(0, what));
            refused("cardOf(31, " + what + ") without a deal", ARGUMENT, () -> new DropSignals().cardOf(31, what));
        }
    }

    static void cardsWithoutADeal() {
        says("promise 7: NONE if .. there is no deal; NONE without a deal");
        DropSignals x = new DropSignals();
        for (int c = 0; c < 32; c++) {
            for (int what = 0; what < 3; what++) {
                due("cardOf(" + c + ", " + what + ") without a deal", NONE, x.cardOf(c, what));
            }
        }
    }

    static void thePlayerWhoHasTheCard() {
        says("promise 7: 0: the player who has it, NONE if it was played");
        Game g = Game.inPlay(12, 1, 3, 0).playOn(Game.WAYS[1], 9);
        DropSignals x = g.made();
        for (int c = 0; c < 32; c++) {
            due("cardOf(" + c + ", 0)", g.now.cards.contains(c) ? NONE : owners(12)[c], x.cardOf(c, 0));
        }
        for (int c = 0; c < 32; c++) {
            due("cardOf(" + c + ", 0) behind the last card", NONE, played(3).cardOf(c, 0));
            due("cardOf(" + c + ", 0) behind four passes", owners(3)[c], allPassed(3).cardOf(c, 0));
            due("cardOf(" + c + ", 0) in bidding", owners(3)[c], dealt(3).cardOf(c, 0));
        }
    }

    static void thePlayerToWhomItWasDealt() {
        says("promise 7: 1: the player to whom it was dealt");
        for (int c = 0; c < 32; c++) {
            due("cardOf(" + c + ", 1) behind the last card", owners(3)[c], played(3).cardOf(c, 1));
            due("cardOf(" + c + ", 1) behind four passes", owners(3)[c], allPassed(3).cardOf(c, 1));
            due("cardOf(" + c + ", 1) in play", owners(3)[c], advance(inPlay(3, 1, 1), 13).cardOf(c, 1));
        }
        DropSignals x = played(3);
        x.deal(4);
        for (int c = 0; c < 32; c++) {
            due("cardOf(" + c + ", 1) in the next deal", owners(4)[c], x.cardOf(c, 1));
        }
    }

    static void whenItWasPlayed() {
        says("promise 7: 2: when it was played in this deal, from 0 for the first card, NONE if it was not");
        Game g = Game.inPlay(12, 1, 3, 0);
        for (int i = 0; i < 32; i++) {
            int c = g.now.advice();
            due("cardOf(" + c + ", 2) ahead of it", NONE, g.made().cardOf(c, 2));
            g.play(c);
            due("cardOf(" + c + ", 2) behind it", i, g.made().cardOf(c, 2));
        }
        DropSignals x = g.made();
        for (int i = 0; i < 32; i++) {
            due("cardOf(" + g.now.cards.get(i) + ", 2) at the end", i, x.cardOf(g.now.cards.get(i), 2));
        }
        x.deal(12);
        for (int c = 0; c < 32; c++) {
            due("cardOf(" + c + ", 2) in the next deal", NONE, x.cardOf(c, 2));
        }
    }

    static void aRefusedCardWasNotPlayed() {
        says("promise 7: 0 and 2: a card that was refused is still with its player");
        DropSignals x = inPlay(12, 1, 3);
        int c = firstNotOf(x, 1);
        x.play(c);
        due("cardOf(" + c + ", 0)", owners(12)[c], x.cardOf(c, 0));
        due("cardOf(" + c + ", 2)", NONE, x.cardOf(c, 2));
    }

    // ---- promise 8: suitOf

    static void thePlayerAndTheSuitOfSuitOf() {
        says("promise 8: IndexOutOfBoundsException if there is no such player or suit");
        DropSignals x = dealt(1);
        for (int n : new int[] {-1, 4, Integer.MIN_VALUE, Integer.MAX_VALUE}) {
            for (int what = 0; what < 6; what++) {
                int w = what;
                refused("suitOf(" + n + ", 0, " + w + ")", INDEX, () -> x.suitOf(n, 0, w));
                refused("suitOf(0, " + n + ", " + w + ")", INDEX, () -> x.suitOf(0, n, w));
            }
        }
        for (int i = 0; i < 4; i++) {
            due("suitOf(" + i + ", 3, 2)", 0, x.suitOf(i, 3, 2));
            due("suitOf(3, " + i + ", 2)", 0, x.suitOf(3, i, 2));
        }
    }

    static void whatOfSuitOf() {
        says("promise 8: IllegalArgumentException if what is not 0 to 5");
        DropSignals x = dealt(1);
        for (int what : new int[] {-1, 6, Integer.MIN_VALUE, Integer.MAX_VALUE}) {
            refused("suitOf(0, 0, " + what + ")", ARGUMENT, () -> x.suitOf(0, 0, what));
            refused("suitOf(3, 3, " + what + ") without a deal", ARGUMENT, () -> new DropSignals().suitOf(3, 3, what));
        }
    }

    static void suitsWithoutADeal() {
        says("promise 8: 0 without a deal (NONE for 4)");
        DropSignals x = new DropSignals();
        for (int i = 0; i < 96; i++) {
            due("suitOf(" + i / 24 + ", " + i / 6 % 4 + ", " + i % 6 + ")", i % 6 == 4 ? NONE : 0, x.suitOf(i / 24, i / 6 % 4, i % 6));
        }
    }

    static void theCardsThatThePlayerHas() {
        says("promise 8: 0: the cards of it that the player has, how many; 1: those that were dealt");
        Game g = Game.inPlay(12, 1, 3, 0).playOn(Game.WAYS[3], 14);
        DropSignals x = g.made();
        DropSignals over = played(12);
        DropSignals passed = allPassed(12);
        for (int i = 0; i < 16; i++) {
            int p = i / 4;
            int s = i % 4;
            int dealt = 0;
            int has = 0;
            for (int c = 8 * s; c < 8 * s + 8; c++) {
                dealt += owners(12)[c] == p ? 1 : 0;
                has += owners(12)[c] == p && !g.now.cards.contains(c) ? 1 : 0;
            }
            due("suitOf(" + p + ", " + s + ", 0)", has, x.suitOf(p, s, 0));
            due("suitOf(" + p + ", " + s + ", 1)", dealt, x.suitOf(p, s, 1));
            due("suitOf(" + p + ", " + s + ", 0) behind the last card", 0, over.suitOf(p, s, 0));
            due("suitOf(" + p + ", " + s + ", 1) behind the last card", dealt, over.suitOf(p, s, 1));
            due("suitOf(" + p + ", " + s + ", 0) behind four passes", dealt, passed.suitOf(p, s, 0));
            due("suitOf(" + p + ", " + s + ", 1) behind four passes", dealt, passed.suitOf(p, s, 1));
        }
    }

    static void theDropsInThisDeal() {
        says("promise 8: 2: the drops in it in this deal");
        for (int drops = 1; drops <= 4; drops++) {
            int n = drops;
            Game g = n < 3 ? Game.one(h -> TermsTests.dropped(h, n)) : TermsTests.manyDrops(n, false);
            int p = g.now.lastPlayer();
            int s = g.now.last() / 8;
            due("drops", n, g.made().suitOf(p, s, 2));
            DropSignals x = g.made();
            x.deal(1);
            due("drops in the next deal", 0, x.suitOf(p, s, 2));
        }
    }

    static void theSignal() {
        says("promise 8: 3: the signal in it: 0 none, 1 odd, 2 even");
        for (int i = 0; i < 2; i++) {
            boolean higherFirst = i == 1;
            Game g = Game.one(h -> TermsTests.dropped(h, 2) && TermsTests.firstWasHigher(h) == higherFirst);
            int p = g.now.lastPlayer();
            int s = g.now.last() / 8;
            due("signal ahead of the second drop", 0, g.back().made().suitOf(p, s, 3));
            due("signal behind the second drop", i + 1, g.made().suitOf(p, s, 3));
            DropSignals x = g.made();
            x.deal(1);
            due("signal in the next deal", 0, x.suitOf(p, s, 3));
        }
    }

    static void whetherTheSignalIsTrue() {
        says("promise 8: 4: 1 if the signal is true, 0 if it lies, NONE without one");
        for (int i = 0; i < 2; i++) {
            int truth = i;
            Game g = Game.one(h -> TermsTests.dropped(h, 2) && h.truth(h.lastPlayer(), h.last() / 8) == truth);
            int p = g.now.lastPlayer();
            int s = g.now.last() / 8;
            due("truth ahead of the second drop", NONE, g.back().made().suitOf(p, s, 4));
            due("truth behind the second drop", truth, g.made().suitOf(p, s, 4));
            DropSignals x = g.made();
            x.deal(1);
            due("truth in the next deal", NONE, x.suitOf(p, s, 4));
            DropSignals over = Game.one(h -> h.phase() == 3 && h.truth(1, 1) == truth).made();
            due("truth behind the last card", truth, over.suitOf(1, 1, 4));
        }
        due("truth in bidding", NONE, dealt(1).suitOf(0, 0, 4));
    }

    static void whoShowedThatThereIsNoCardLeft() {
        says("promise 8: 5: 1 if the player showed that there is no card of it left, by another suit than the one that was led, otherwise 0");
        for (Game g : Game.some(6, h -> !h.cards.isEmpty() && !h.lastLed() && !h.lastFollowed())) {
            int p = g.now.lastPlayer();
            for (int s = 0; s < 4; s++) {
                boolean shown = g.now.showedNone(p, s);
                due("suitOf(" + p + ", " + s + ", 5)", shown ? 1 : 0, g.made().suitOf(p, s, 5));
            }
            due("suitOf() of the suit that was led", 1, g.made().suitOf(p, g.now.lastLead() / 8, 5));
            DropSignals x = g.made();
            x.deal(1);
            due("suitOf() in the next deal", 0, x.suitOf(p, g.now.lastLead() / 8, 5));
        }
    }

    static void whoHasNoneButDidNotShowIt() {
        says("promise 8: 5: showed .. by another suit than the one that was led: who has none left, but did not show it, is told as 0");
        for (Game g : Game.some(4, h -> h.lastFollowed() && h.of(h.hand(h.lastPlayer()), h.last() / 8).isEmpty())) {
            due("suitOf(.., 5) behind the last card of a suit", 0, g.made().suitOf(g.now.lastPlayer(), g.now.last() / 8, 5));
        }
        for (Game g : Game.some(4, h -> h.lastLed() && h.of(h.hand(h.lastPlayer()), h.last() / 8).isEmpty())) {
            due("suitOf(.., 5) behind a lead of the last card of a suit", 0, g.made().suitOf(g.now.lastPlayer(), g.now.last() / 8, 5));
        }
        Game none = Game.one(h -> h.phase() == 2 && h.cards.isEmpty() && voidSuit(h) != NONE);
        int place = voidSuit(none.now);
        due("suitOf(.., 5) of who was dealt none", 0, none.made().suitOf(place / 4, place % 4, 5));
    }

    static int voidSuit(History h) {
        for (int i = 0; i < 16; i++) {
            if (h.dealt(i / 4, i % 4) == 0) {
                return i;
            }
        }
        return NONE;
    }

    // ---- promise 9: trick

    static void thePlaceInTheTrick() {
        says("promise 9: IndexOutOfBoundsException if k is not 0 to 3");
        DropSignals x = advance(inPlay(1, 1, 1), 3);
        for (int k : new int[] {-1, 4, Integer.MIN_VALUE, Integer.MAX_VALUE}) {
            refused("trick(" + k + ")", INDEX, () -> x.trick(k));
            refused("trick(" + k + ") without a deal", INDEX, () -> new DropSignals().trick(k));
        }
        must("trick(0) is a card", x.trick(0) >= 0);
        due("trick(3)", NONE, x.trick(3));
    }

    static void noTrickIsBeingPlayed() {
        says("promise 9: NONE if there are not so many");
        for (DropSignals x : List.of(new DropSignals(), dealt(1), inPlay(1, 1, 1), allPassed(1), played(1))) {
            for (int k = 0; k < 4; k++) {
                due("trick(" + k + ") with about(1) " + x.about(1), NONE, x.trick(k));
            }
        }
        DropSignals cut = advance(inPlay(1, 1, 1), 6);
        cut.deal(1);
        for (int k = 0; k < 4; k++) {
            due("trick(" + k + ") in the deal behind one that was cut off", NONE, cut.trick(k));
        }
    }

    static void theCardsOfTheTrick() {
        says("promise 9: which one, from 0 for the one that was led (a trick with 4 cards is none that is being played)");
        Game g = Game.inPlay(5, 1, 1, 2);
        for (int i = 0; i <= 32; i++) {
            DropSignals x = g.made();
            for (int k = 0; k < 4; k++) {
                int want = k < i % 4 ? g.now.cards.get(i - i % 4 + k) : NONE;
                due("trick(" + k + ") behind " + i + " cards", want, x.trick(k));
            }
            g.playOn(Game.WAYS[2], 1);
        }
    }

    public static void main(String[] args) {
        runAll(LookTests.class);
    }
}

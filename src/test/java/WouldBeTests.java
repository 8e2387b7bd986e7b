import java.util.ArrayList;
import java.util.Arrays;
import java.util.HashSet;
import java.util.List;
import java.util.Set;
import java.util.function.Predicate;

/** The promises 15 to 19, what would be: a test for each sentence that names a boundary. */
public final class WouldBeTests extends Checks {
    // ---- promise 15: legal

    static void thePlaceOfLegal() {
        says("promise 15: IndexOutOfBoundsException if k is not 0 to 7");
        for (int k : new int[] {-1, 8, Integer.MIN_VALUE, Integer.MAX_VALUE}) {
            refused("legal(" + k + ") without a deal", INDEX, () -> new DropSignals().legal(k));
            refused("legal(" + k + ") in play", INDEX, () -> inPlay(1, 1, 1).legal(k));
            refused("legal(" + k + ") at the end", INDEX, () -> played(1).legal(k));
        }
    }

    static void all8CardsAtTheFirstLead() {
        says("promise 15: k: from 0, by rising numbers; k is 0 to 7");
        for (int declarer = 0; declarer < 4; declarer++) {
            DropSignals x = inPlay(1, 1, 1, declarer);
            int k = 0;
            for (int c = 0; c < 32; c++) {
                if (owners(1)[c] == (declarer + 1) % 4) {
                    due("legal(" + k + ")", c, x.legal(k));
                    k++;
                }
            }
            due("cards that can be played", 8, k);
        }
    }

    static void noneWithoutPlay() {
        says("promise 15: NONE if .. there is no play");
        for (DropSignals x : List.of(new DropSignals(), dealt(1), bidding(), allPassed(1), played(1))) {
            for (int k = 0; k < 8; k++) {
                due("legal(" + k + ") with about(1) " + x.about(1), NONE, x.legal(k));
            }
        }
    }

    static DropSignals bidding() {
        DropSignals x = dealt(1);
        x.bid(1, 1);
        passes(x, 2);
        return x;
    }

    static void noneIfThereAreNotSoMany() {
        says("promise 15: NONE if there are not so many");
        for (Game g : Game.some(8, h -> h.phase() == 2 && h.legal().size() == 1)) {
            DropSignals x = g.made();
            due("legal(0)", g.now.legal().get(0), x.legal(0));
            for (int k = 1; k < 8; k++) {
                due("legal(" + k + ") of one card", NONE, x.legal(k));
            }
        }
        for (int n = 2; n < 8; n++) {
            int many = n;
            Game g = Game.one(h -> h.cards.size() > 4 && h.phase() == 2 && h.legal().size() == many);
            must("legal(" + (n - 1) + ") is a card", g.made().legal(n - 1) >= 0);
            due("legal(" + n + ")", NONE, g.made().legal(n));
        }
    }

    static void theCardsThatCanBePlayed() {
        says("promise 15: Tells which cards can be played now: those of the suit that was led, or any");
        List<Game> games = new ArrayList<>(Game.some(6, h -> h.trick().size() > 0 && TermsTests.followers(h) == 2 && h.hand(h.turn()).size() > 3));
        games.addAll(Game.some(6, h -> h.trick().size() > 0 && TermsTests.followers(h) == 0 && h.hand(h.turn()).size() > 3));
        games.addAll(Game.some(6, h -> h.trick().isEmpty() && h.cards.size() > 3 && h.phase() == 2));
        for (Game g : games) {
            List<Integer> hand = g.now.hand(g.now.turn());
            boolean follows = !g.now.trick().isEmpty() && TermsTests.followers(g.now) > 0;
            int k = 0;
            for (int c : hand) {
                if (!follows || c / 8 == g.now.trick().get(0) / 8) {
                    due("legal(" + k + ")", c, g.made().legal(k));
                    due("play() of it", 0, g.made().play(c));
                    k++;
                }
            }
            for (; k < 8; k++) {
                due("legal(" + k + ") behind the last one", NONE, g.made().legal(k));
            }
        }
    }

    // ---- promise 16: advice

    static void noAdviceWithoutPlay() {
        says("promise 16: Returns NONE without play");
        for (DropSignals x : List.of(new DropSignals(), dealt(1), bidding(), allPassed(1), played(1))) {
            due("advice() with about(1) " + x.about(1), NONE, x.advice());
        }
    }

    static boolean follows(History h) {
        return !h.trick().isEmpty() && TermsTests.followers(h) > 0;
    }

    static int led(History h) {
        return h.trick().get(0) / 8;
    }

    static List<Integer> small(History h, int s) {
        List<Integer> small = new ArrayList<>(h.of(h.hand(h.turn()), s));
        small.removeIf(c -> c % 8 > 3);
        return small;
    }

    static boolean dealtEven(History h) {
        return h.dealt(h.turn(), led(h)) % 2 == 0;
    }

    /** The player whose turn it is follows, has so many drops of the suit and so many small cards of it. */
    static boolean stands(History h, int drops, int small) {
        return follows(h) && h.drops(h.turn(), led(h)).size() == drops && small(h, led(h)).size() == small;
    }

    static void advised(String situation, Game g, int want) {
        due("advice() with " + situation, want, g.made().advice());
        due("play() of it", 0, g.made().play(want));
    }

    static void theFirstDropOfAnEvenSuit() {
        says("promise 16: no drop, two small cards of it or more: the highest of these, if an even number was dealt");
        for (int n = 2; n <= 4; n++) {
            int many = n;
            Game g = Game.one(h -> stands(h, 0, many) && dealtEven(h));
            advised(n + " small cards, an even number dealt", g, small(g.now, led(g.now)).get(n - 1));
        }
        Game high = Game.one(h -> stands(h, 0, 2) && dealtEven(h) && TermsTests.followers(h) > 2);
        advised("higher cards beside two small ones", high, small(high.now, led(high.now)).get(1));
    }

    static void theFirstDropOfAnOddSuit() {
        says("promise 16: no drop, two small cards of it or more: .. the lowest one, if an odd one");
        for (int n = 2; n <= 3; n++) {
            int many = n;
            Game g = Game.one(h -> stands(h, 0, many) && !dealtEven(h));
            advised(n + " small cards, an odd number dealt", g, small(g.now, led(g.now)).get(0));
        }
    }

    static void oneSmallCardAndNoDrop() {
        says("promise 16: two small cards of it or more: with one or none, the lowest rank that can be played");
        for (int n = 0; n < 2; n++) {
            int many = n;
            for (Game g : Game.some(4, h -> stands(h, 0, many) && h.legal().size() > 1 && dealtEven(h))) {
                advised(n + " small cards and no drop", g, g.now.legal().get(0));
            }
        }
    }

    static void theNumberThatWasDealt() {
        says("promise 16: if an even number of this suit was dealt to the player: dealt, not left");
        Predicate<History> ledBefore = h -> follows(h) && h.drops(h.turn(), led(h)).isEmpty() && small(h, led(h)).size() >= 2
            && (h.dealt(h.turn(), led(h)) - TermsTests.followers(h)) % 2 == 1;
        Game even = Game.one(h -> ledBefore.test(h) && dealtEven(h));
        List<Integer> small = small(even.now, led(even.now));
        advised("an even number dealt and an odd one left", even, small.get(small.size() - 1));
        Game odd = Game.one(h -> ledBefore.test(h) && !dealtEven(h));
        advised("an odd number dealt and an even one left", odd, small(odd.now, led(odd.now)).get(0));
    }

    static void aSmallLeadIsNoFirstDrop() {
        says("promise 16: has made no drop of the suit that was led: a small card that was led is none");
        Predicate<History> ledSmall = h -> follows(h) && h.drops(h.turn(), led(h)).isEmpty() && small(h, led(h)).size() >= 2
            && smallLeads(h) > 0;
        Game g = Game.one(h -> ledSmall.test(h) && dealtEven(h));
        List<Integer> small = small(g.now, led(g.now));
        advised("a small card led before", g, small.get(small.size() - 1));
    }

    static int smallLeads(History h) {
        int leads = 0;
        for (int c : TermsTests.playedBy(h, h.turn(), led(h))) {
            leads += c % 8 <= 3 && h.cards.indexOf(c) % 4 == 0 ? 1 : 0;
        }
        return leads;
    }

    static void theSecondDropThatMakesTheSignalTrue() {
        says("promise 16: has made just one drop of this suit, and has a small card of it that makes the signal true: the lowest such card");
        // Odd: the second drop has to be higher than the first one; a lower one is in hand too.
        Game odd = Game.one(h -> stands(h, 1, 2) && !dealtEven(h) && between(h));
        advised("an odd number dealt, one lower and one higher", odd, small(odd.now, led(odd.now)).get(1));
        // Two that are higher: the lowest of these.
        Game two = Game.one(h -> stands(h, 1, 2) && !dealtEven(h) && small(h, led(h)).get(0) > firstDrop(h));
        advised("an odd number dealt, two higher", two, small(two.now, led(two.now)).get(0));
        // Even: a lower one, of two the lowest.
        Game even = Game.one(h -> stands(h, 1, 2) && dealtEven(h) && small(h, led(h)).get(1) < firstDrop(h));
        advised("an even number dealt, two lower", even, small(even.now, led(even.now)).get(0));
        Game both = Game.one(h -> stands(h, 1, 2) && dealtEven(h) && between(h));
        advised("an even number dealt, one lower and one higher", both, small(both.now, led(both.now)).get(0));
    }

    /** The player whose turn it is and the suit that was led, as one number. */
    static int turnAndLed(History h) {
        return 4 * h.turn() + led(h);
    }

    static void theSecondDropInEverySuitByEveryPlayer() {
        says("promise 16: .. the lowest such card: in whichever suit was led, whoever follows");
        Set<Integer> suits = new HashSet<>();
        Set<Integer> players = new HashSet<>();
        List<Game> games = new ArrayList<>(Game.some(4, h -> stands(h, 1, 2) && !dealtEven(h) && between(h) && suits.add(led(h))));
        games.addAll(Game.some(4, h -> stands(h, 1, 2) && !dealtEven(h) && between(h) && players.add(h.turn())));
        for (Game g : games) {
            advised("an odd number dealt, one lower and one higher", g, small(g.now, led(g.now)).get(1));
        }
    }

    static void theFirstDropInEverySuitByEveryPlayer() {
        says("promise 16: the highest of these, if an even number was dealt: in whichever suit was led, whoever follows");
        Set<Integer> seen = new HashSet<>();
        for (Game g : Game.some(16, h -> stands(h, 0, 2) && dealtEven(h) && seen.add(turnAndLed(h)))) {
            advised("two small cards, an even number dealt", g, small(g.now, led(g.now)).get(1));
        }
    }

    static int firstDrop(History h) {
        return h.drops(h.turn(), led(h)).get(0);
    }

    static boolean between(History h) {
        return small(h, led(h)).get(0) < firstDrop(h) && small(h, led(h)).get(1) > firstDrop(h);
    }

    static void noCardMakesTheSignalTrue() {
        says("promise 16: and has a small card of it that makes the signal true; in all other cases the lowest rank");
        // Even, but all small cards are higher: the lowest card, though it lies.
        for (Game g : Game.some(3, h -> stands(h, 1, 1) && dealtEven(h) && small(h, led(h)).get(0) > firstDrop(h))) {
            advised("an even number dealt and only a higher one", g, small(g.now, led(g.now)).get(0));
        }
        for (Game g : Game.some(3, h -> stands(h, 1, 1) && !dealtEven(h) && small(h, led(h)).get(0) < firstDrop(h))) {
            advised("an odd number dealt and only a lower one", g, small(g.now, led(g.now)).get(0));
        }
        for (Game g : Game.some(3, h -> stands(h, 1, 0) && h.legal().size() > 1)) {
            advised("no small card", g, g.now.legal().get(0));
        }
        // A higher card that is not small would tell "odd" as well, but it is no drop.
        Game g = Game.one(h -> stands(h, 1, 1) && !dealtEven(h) && small(h, led(h)).get(0) < firstDrop(h) && h.legal().size() > 1);
        advised("an odd number dealt, a lower one and one that is not small", g, g.now.legal().get(0));
        Game rank4 = Game.one(h -> stands(h, 1, 1) && !dealtEven(h) && small(h, led(h)).get(0) < firstDrop(h) && h.legal().contains(8 * led(h) + 4));
        advised("an odd number dealt, a lower one and one of rank 4", rank4, rank4.now.legal().get(0));
    }

    static void behindTheSecondDrop() {
        says("promise 16: just one drop; in all other cases the lowest rank that can be played");
        // Were the two drops overlooked, the highest small card would begin a signal.
        Game even = TermsTests.dropsInOrder(n -> n % 2 == 0, 0, 1, 2).back();
        must("two drops were made, and two small cards are left", stands(even.now, 2, 2) && dealtEven(even.now));
        advised("two drops and two small cards, an even number dealt", even, even.now.legal().get(0));
        // Were one of the two overlooked, a card that is higher than the first one would follow it.
        Game odd = TermsTests.dropsInOrder(n -> n % 2 == 1, 1, 2, 3).back();
        must("two drops were made, and a lower and a higher card are left", stands(odd.now, 2, 2) && !dealtEven(odd.now));
        advised("two drops, a lower card and a higher one, an odd number dealt", odd, odd.now.legal().get(0));
        for (Game h : Game.some(3, s -> stands(s, 2, 1) && s.legal().size() > 1)) {
            advised("two drops and one small card", h, h.now.legal().get(0));
        }
    }

    static boolean tie(History h) {
        int lowest = Game.lowRank(h) % 8;
        int ties = 0;
        for (int c : h.legal()) {
            ties += c % 8 == lowest ? 1 : 0;
        }
        return ties > 1;
    }

    /** The lowest rank, of several the lowest suit. */
    static int lowest(History h) {
        int best = NONE;
        for (int c : h.legal()) {
            best = best == NONE || c % 8 * 4 + c / 8 < best % 8 * 4 + best / 8 ? c : best;
        }
        return best;
    }

    static void theLowestRankOfALead() {
        says("promise 16: in all other cases (leading) the lowest rank that can be played, of several the lowest suit");
        for (Game g : Game.some(6, h -> h.phase() == 2 && h.trick().isEmpty() && !tie(h) && lowest(h) != h.legal().get(0))) {
            advised("a lead", g, lowest(g.now));
        }
        for (Game g : Game.some(6, h -> h.phase() == 2 && h.trick().isEmpty() && tie(h) && lowest(h) != h.legal().get(0))) {
            advised("a lead, several of the lowest rank", g, lowest(g.now));
        }
    }

    static void theLowestRankOfADiscard() {
        says("promise 16: in all other cases (another suit) the lowest rank that can be played, of several the lowest suit");
        Predicate<History> discards = h -> !h.trick().isEmpty() && !follows(h) && h.legal().size() > 2;
        for (Game g : Game.some(4, h -> discards.test(h) && tie(h) && lowest(h) != h.legal().get(0))) {
            advised("a discard, several of the lowest rank", g, lowest(g.now));
        }
        for (Game g : Game.some(4, h -> discards.test(h) && !tie(h) && lowest(h) / 8 == h.trumps())) {
            advised("a discard, the lowest rank is a trump", g, lowest(g.now));
        }
        // An even number of small cards of a suit that was not led: this is no place for a signal.
        for (Game g : Game.some(4, h -> discards.test(h) && small(h, lowest(h) / 8).size() == 2 && h.dealt(h.turn(), lowest(h) / 8) == 2)) {
            advised("a discard from two small cards", g, lowest(g.now));
        }
    }

    // ---- promise 17: mayHave

    static void thePlayersAndTheSuitOfMayHave() {
        says("promise 17: IndexOutOfBoundsException if there is no such player or suit");
        DropSignals x = inPlay(1, 1, 1);
        for (int n : new int[] {-1, 4, Integer.MIN_VALUE, Integer.MAX_VALUE}) {
            refused("mayHave(" + n + ", 1, 0)", INDEX, () -> x.mayHave(n, 1, 0, true));
            refused("mayHave(0, " + n + ", 0)", INDEX, () -> x.mayHave(0, n, 0, true));
            refused("mayHave(0, 1, " + n + ")", INDEX, () -> x.mayHave(0, 1, n, true));
            refused("mayHave(" + n + ", " + n + ", 0), both the same", INDEX, () -> x.mayHave(n, n, 0, true));
            refused("mayHave(2, 2, " + n + "), both the same", INDEX, () -> x.mayHave(2, 2, n, true));
            refused("mayHave(0, 1, " + n + ") without play", INDEX, () -> dealt(1).mayHave(0, 1, n, true));
        }
    }

    static void bothAreTheSame() {
        says("promise 17: IllegalArgumentException if both are the same");
        for (int p = 0; p < 4; p++) {
            int both = p;
            refused("mayHave(" + p + ", " + p + ", 0)", ARGUMENT, () -> inPlay(1, 1, 1).mayHave(both, both, 0, true));
            refused("mayHave(" + p + ", " + p + ", 3) without play", ARGUMENT, () -> dealt(1).mayHave(both, both, 3, false));
        }
    }

    static void mayHaveWithoutPlay() {
        says("promise 17: IllegalStateException if there is no play");
        for (DropSignals x : List.of(new DropSignals(), dealt(1), bidding(), allPassed(1), played(1))) {
            refused("mayHave(0, 1, 0, true) with about(1) " + x.about(1), STATE, () -> x.mayHave(0, 1, 0, true));
            refused("mayHave(3, 2, 3, false) with about(1) " + x.about(1), STATE, () -> x.mayHave(3, 2, 3, false));
        }
    }

    static void allNumbersFrom0AtTheStart() {
        says("promise 17: Returns a set of numbers (bit n for n): all n from 0 for which ..");
        for (int i = 0; i < 64; i++) {
            int viewer = i / 16;
            int p = i / 4 % 4;
            int s = i % 4;
            if (viewer != p) {
                DropSignals x = inPlay(2, 1, 1);
                int unseen = 8 - x.suitOf(viewer, s, 1);
                due("mayHave(" + viewer + ", " + p + ", " + s + ")", (1 << unseen + 1) - 1, x.mayHave(viewer, p, s, true));
            }
        }
        int all8 = 0;
        for (int seed = 0; seed < 200; seed++) {
            for (int i = 0; i < 16; i++) {
                DropSignals x = inPlay(seed, 1, 1);
                if (x.suitOf(i / 4, i % 4, 1) == 0) {
                    due("mayHave() of a suit that the viewer does not have", 511, x.mayHave(i / 4, (i / 4 + 1) % 4, i % 4, true));
                    all8++;
                }
            }
        }
        must("a viewer had no card of a suit", all8 > 0);
    }

    static final int SHOWN = 0;
    static final int HAND = 1;
    static final int UNSEEN = 2;
    static final int OTHERS = 3;
    static final int OTHERS_WHO_SHOWED = 4;
    static final int SIGNAL = 5;
    static final int PLAYED = 6;
    static final int OWN = 7;
    static final int NOTHING = 8;

    /** The set, with one of the conditions left out: so that a situation can be found in which this one matters. */
    static int possible(History h, int viewer, int p, int s, boolean reads, int leftOut) {
        int unseen = 0;
        for (int c = 8 * s; c < 8 * s + 8; c++) {
            unseen += h.holder(c) != NONE && (h.holder(c) != viewer || leftOut == OWN) ? 1 : 0;
        }
        int others = 0;
        for (int q = 0; q < 4; q++) {
            boolean counts = q != viewer && q != p && (!h.showedNone(q, s) || leftOut == OTHERS_WHO_SHOWED);
            others += counts ? h.hand(q).size() : 0;
        }
        int gone = leftOut == PLAYED ? 0 : TermsTests.playedBy(h, p, s).size();
        int set = 0;
        for (int n = 0; n <= 8; n++) {
            boolean may = leftOut == SHOWN || n == 0 || !h.showedNone(p, s);
            may &= leftOut == HAND || n <= h.hand(p).size();
            may &= leftOut == UNSEEN || n <= unseen;
            may &= leftOut == OTHERS || unseen - n <= others;
            boolean read = reads && h.signal(p, s) != 0 && leftOut != SIGNAL;
            may &= !read || h.signal(p, s) == 2 == ((n + gone) % 2 == 0);
            set |= may ? 1 << n : 0;
        }
        return set;
    }

    /** A viewer, a player and a suit for which this condition matters, as one number; NONE if there are none. */
    static int place(History h, boolean reads, int condition) {
        for (int i = 0; i < 64; i++) {
            int viewer = i / 16;
            int p = i / 4 % 4;
            int s = i % 4;
            if (viewer != p && h.phase() == 2
                && possible(h, viewer, p, s, reads, NOTHING) != possible(h, viewer, p, s, reads, condition)) {
                return i;
            }
        }
        return NONE;
    }

    static void conditionMatters(int condition, boolean reads, int leastCards) {
        for (Game g : Game.some(10, h -> h.cards.size() >= leastCards && h.phase() == 2 && place(h, reads, condition) != NONE)) {
            int i = place(g.now, reads, condition);
            int want = possible(g.now, i / 16, i / 4 % 4, i % 4, reads, NOTHING);
            due("mayHave(" + i / 16 + ", " + i / 4 % 4 + ", " + i % 4 + ", " + reads + ") behind " + g.now.cards.size() + " cards", want,
                g.made().mayHave(i / 16, i / 4 % 4, i % 4, reads));
        }
    }

    static void whoShowedThatThereIsNoneLeft() {
        says("promise 17: n is 0, if p showed that there is no card of it left");
        conditionMatters(SHOWN, false, 0);
        conditionMatters(SHOWN, true, 0);
        for (Game g : Game.some(6, h -> h.phase() == 2 && !h.cards.isEmpty() && !h.lastLed() && !h.lastFollowed())) {
            int p = g.now.lastPlayer();
            due("mayHave() of who showed it just now", 1, g.made().mayHave((p + 1) % 4, p, g.now.lastLead() / 8, false));
        }
    }

    static void notMoreThanTheCardsThatPHas() {
        says("promise 17: n is at most the cards that p has");
        conditionMatters(HAND, false, 0);
        conditionMatters(HAND, false, 24);
        conditionMatters(HAND, true, 16);
    }

    static void aPlayerWithoutCards() {
        says("promise 17: n is at most the cards that p has: none, in the last trick");
        for (Game g : Game.some(6, h -> h.cards.size() == 30)) {
            int p = g.now.lastPlayer();
            for (int s = 0; s < 4; s++) {
                due("mayHave() of who has no card", 1, g.made().mayHave(g.now.turn(), p, s, false) | possible(g.now, g.now.turn(), p, s, false, NOTHING));
                due("mayHave() of who has no card", possible(g.now, g.now.turn(), p, s, false, NOTHING), g.made().mayHave(g.now.turn(), p, s, false));
            }
        }
    }

    static void notMoreThanTheCardsThatAreNotSeen() {
        says("promise 17: n is at most the cards of the suit that the viewer does not see (neither played nor own)");
        conditionMatters(UNSEEN, false, 0);
        conditionMatters(UNSEEN, false, 12);
        conditionMatters(OWN, false, 0);
        conditionMatters(OWN, false, 12);
        Game seen = Game.one(h -> h.phase() == 2 && allSeen(h) != NONE);
        int i = allSeen(seen.now);
        due("mayHave() of a suit of which all cards are seen", 1, seen.made().mayHave(i / 4, (i / 4 + 2) % 4, i % 4, false));
    }

    /** A viewer who has all cards of a suit that are not played. */
    static int allSeen(History h) {
        for (int i = 0; i < 16; i++) {
            int unseen = 0;
            for (int c = i % 4 * 8; c < i % 4 * 8 + 8; c++) {
                unseen += h.holder(c) != NONE && h.holder(c) != i / 4 ? 1 : 0;
            }
            if (unseen == 0) {
                return i;
            }
        }
        return NONE;
    }

    static void theOthersHaveToHoldTheRest() {
        says("promise 17: and these without n are at most the cards that the other two players have together");
        conditionMatters(OTHERS, false, 0);
        conditionMatters(OTHERS, false, 28);
        conditionMatters(OTHERS, true, 20);
    }

    static void withoutThoseWhoShowedThatTheyHaveNone() {
        says("promise 17: without those of them who showed that they have none of it left");
        conditionMatters(OTHERS_WHO_SHOWED, false, 0);
        conditionMatters(OTHERS_WHO_SHOWED, true, 20);
        for (Game g : Game.some(2, h -> h.phase() == 2 && bothShowed(h) != NONE)) {
            int i = bothShowed(g.now);
            int viewer = i / 16;
            int p = i / 4 % 4;
            int unseen = 0;
            for (int q = 0; q < 4; q++) {
                unseen += q == viewer ? 0 : g.now.of(g.now.hand(q), i % 4).size();
            }
            due("mayHave() where both others showed it: all that are not seen", 1 << unseen, g.made().mayHave(viewer, p, i % 4, false));
        }
    }

    static int bothShowed(History h) {
        for (int i = 0; i < 64; i++) {
            int viewer = i / 16;
            int p = i / 4 % 4;
            int shown = 0;
            for (int q = 0; q < 4; q++) {
                shown += q != viewer && q != p && h.showedNone(q, i % 4) ? 1 : 0;
            }
            if (viewer != p && shown == 2 && !h.showedNone(p, i % 4)) {
                return i;
            }
        }
        return NONE;
    }

    static void signalsThatAreRead() {
        says("promise 17: and, if signals are read, and p gave one in s, n and the cards of s that p has played are, together, even or odd as it tells");
        conditionMatters(SIGNAL, true, 0);
        conditionMatters(PLAYED, true, 0);
        conditionMatters(PLAYED, true, 16);
        for (int i = 0; i < 2; i++) {
            int signal = i + 1;
            for (Game g : Game.some(4, h -> h.phase() == 2 && TermsTests.dropped(h, 2) && h.signal(h.lastPlayer(), h.last() / 8) == signal
                && TermsTests.playedBy(h, h.lastPlayer(), h.last() / 8).size() == 2)) {
                int p = g.now.lastPlayer();
                int s = g.now.last() / 8;
                int got = g.made().mayHave((p + 1) % 4, p, s, true);
                // Two are played, so the numbers that are left are even or odd as the signal tells.
                due("numbers that the signal " + signal + " rules out", 0, got & (signal == 2 ? 0xAA : 0x155));
            }
        }
    }

    static void signalsOfEveryPlayerInEverySuit() {
        says("promise 17: .. if p gave one in s: whoever p is, and in each suit, it is that number of cards which counts");
        Set<Integer> seen = new HashSet<>();
        for (Game g : Game.some(32, h -> h.phase() == 2 && TermsTests.dropped(h, 2) && seen.add(signalOfLast(h)))) {
            int p = g.now.lastPlayer();
            int s = g.now.last() / 8;
            for (int viewer = 0; viewer < 4; viewer++) {
                if (viewer != p) {
                    due("mayHave(" + viewer + ", " + p + ", " + s + ", true)", possible(g.now, viewer, p, s, true, NOTHING),
                        g.made().mayHave(viewer, p, s, true));
                }
            }
        }
    }

    /** The player, the suit and the signal of the last card, as one number. */
    static int signalOfLast(History h) {
        return 100 * h.lastPlayer() + 10 * (h.last() / 8) + h.signal(h.lastPlayer(), h.last() / 8);
    }

    static void signalsThatAreNotRead() {
        says("promise 17: if signals are read: otherwise they rule nothing out");
        for (Game g : Game.some(8, h -> h.phase() == 2 && place(h, true, SIGNAL) != NONE)) {
            int i = place(g.now, true, SIGNAL);
            int want = possible(g.now, i / 16, i / 4 % 4, i % 4, false, NOTHING);
            due("mayHave(.., false)", want, g.made().mayHave(i / 16, i / 4 % 4, i % 4, false));
        }
    }

    static void oneDropIsNotRead() {
        says("promise 17: and p gave one in s: one drop is none");
        for (Game g : Game.some(6, h -> h.phase() == 2 && TermsTests.dropped(h, 1))) {
            int p = g.now.lastPlayer();
            int s = g.now.last() / 8;
            int viewer = (p + 3) % 4;
            due("mayHave(.., true)", g.made().mayHave(viewer, p, s, false), g.made().mayHave(viewer, p, s, true));
        }
    }

    static void signalsThatLieAreTrusted() {
        says("promise 17: whether signals are read, and trusted: a lie rules the truth out, and maybe everything");
        for (Game g : Game.some(6, h -> h.phase() == 2 && TermsTests.dropped(h, 2) && h.truth(h.lastPlayer(), h.last() / 8) == 0)) {
            int p = g.now.lastPlayer();
            int s = g.now.last() / 8;
            int left = g.now.of(g.now.hand(p), s).size();
            due("whether the number of cards may be the true one", 0, g.made().mayHave((p + 1) % 4, p, s, true) >> left & 1);
        }
        Game none = Game.one(h -> h.phase() == 2 && empty(h) != NONE);
        int i = empty(none.now);
        due("mayHave() behind a lie that leaves nothing", 0, none.made().mayHave(i / 16, i / 4 % 4, i % 4, true));
    }

    static int empty(History h) {
        for (int i = 0; i < 64; i++) {
            if (i / 16 != i / 4 % 4 && possible(h, i / 16, i / 4 % 4, i % 4, true, NOTHING) == 0) {
                return i;
            }
        }
        return NONE;
    }

    // ---- promise 18: most

    static void theWayOfMost() {
        says("promise 18: IllegalArgumentException if way is neither 0 nor 1");
        for (int way : new int[] {-1, 2, Integer.MIN_VALUE, Integer.MAX_VALUE}) {
            refused("most(" + way + ") without a deal", ARGUMENT, () -> new DropSignals().most(way));
            refused("most(" + way + ") with 8 cards", ARGUMENT, () -> inPlay(1, 1, 1).most(way));
            refused("most(" + way + ") with few cards", ARGUMENT, () -> advance(inPlay(1, 1, 1), 24).most(way));
        }
    }

    static void mostWithoutPlay() {
        says("promise 18: IllegalStateException if there is no play");
        for (DropSignals x : List.of(new DropSignals(), dealt(1), bidding(), allPassed(1), played(1))) {
            refused("most(0) with about(1) " + x.about(1), STATE, () -> x.most(0));
            refused("most(1) with about(1) " + x.about(1), STATE, () -> x.most(1));
        }
    }

    static void anyPlayerHasMoreThan3Cards() {
        says("promise 18: IllegalStateException if .. any player has more than 3 cards");
        for (int cards = 0; cards < 32; cards++) {
            Game g = Game.inPlay(4, 1, 2, 1).playOn(Game.WAYS[0], cards);
            int largest = 0;
            for (int p = 0; p < 4; p++) {
                largest = Math.max(largest, g.now.hand(p).size());
            }
            for (int way = 0; way < 2; way++) {
                int w = way;
                String got = told(() -> g.made().most(w));
                due("most(" + way + ") behind " + cards + " cards throws", largest > 3 ? 1 : 0, got.equals(STATE) ? 1 : 0);
                due("most(" + way + ") behind " + cards + " cards throws", cards < 20 ? 1 : 0, got.equals(STATE) ? 1 : 0);
            }
        }
    }

    static void onePlayerAloneHasMoreThan3Cards() {
        says("promise 18 and 19: any player has more than 3 cards: one alone, whoever it is");
        for (int p = 0; p < 4; p++) {
            int alone = p;
            Game g = Game.one(h -> h.cards.size() == 19 && h.turn() == alone);
            refused("most(0) where " + p + " has 4 cards", STATE, () -> g.made().most(0));
            refused("most(1) where " + p + " has 4 cards", STATE, () -> g.made().most(1));
            refused("bestCard() where " + p + " has 4 cards", STATE, () -> g.made().bestCard());
        }
    }

    /** Both ways, against all that can be played. */
    static void most(Game g) {
        int side = g.now.turn() % 2;
        int want = g.now.bestFor(side) - g.now.tricks(side);
        String where = " behind " + g.now.cards.size() + " cards, the turn of the side " + side;
        due("most(0)" + where, want, g.made().most(0));
        due("most(1)" + where, want, g.made().most(1));
    }

    static void theMostTricksThatTheSideCanStillWin() {
        says("promise 18: the most tricks that the side whose turn it is can still win, if both sides play as well as they can with open cards");
        for (int side = 0; side < 2; side++) {
            int turn = side;
            for (int cards = 20; cards < 32; cards++) {
                int n = cards;
                for (Game g : Game.some(n < 22 ? 3 : 12, h -> h.cards.size() == n && h.turn() % 2 == turn)) {
                    most(g);
                }
            }
        }
    }

    static void fromNoneToAll() {
        says("promise 18: Returns how many (the same for both ways): from 0 to 3");
        for (int tricks = 0; tricks <= 3; tricks++) {
            int n = tricks;
            Game g = Game.one(h -> h.cards.size() == 20 && h.bestFor(h.turn() % 2) - h.tricks(h.turn() % 2) == n);
            due("most(0)", n, g.made().most(0));
            due("most(1)", n, g.made().most(1));
        }
    }

    static void theTrickThatIsBeingPlayedCounts() {
        says("promise 18: the trick that is being played counts");
        for (int won = 0; won < 2; won++) {
            int n = won;
            for (Game g : Game.some(3, h -> h.cards.size() == 31 && lastTrickWon(h) == n)) {
                due("most(0) ahead of the last card", n, g.made().most(0));
                due("most(1) ahead of the last card", n, g.made().most(1));
            }
        }
    }

    /** Whether the last card wins the last trick for the side whose turn it is. */
    static int lastTrickWon(History h) {
        int side = h.turn() % 2;
        return h.bestFor(side) - h.tricks(side);
    }

    static void theTricksThatWereWonDoNotCount() {
        says("promise 18: can still win: the tricks that were won do not count");
        for (Game g : Game.some(4, h -> h.cards.size() == 28 && h.tricks(h.turn() % 2) == 7)) {
            must("most(0) is 0 or 1", g.made().most(0) <= 1);
            must("most(1) is 0 or 1", g.made().most(1) <= 1);
        }
    }

    // ---- promise 19: bestCard

    static void bestCardWithoutPlay() {
        says("promise 19: IllegalStateException if there is no play");
        for (DropSignals x : List.of(new DropSignals(), dealt(1), bidding(), allPassed(1), played(1))) {
            refused("bestCard() with about(1) " + x.about(1), STATE, x::bestCard);
        }
    }

    static void bestCardWithTooManyCards() {
        says("promise 19: IllegalStateException if .. any player has more than 3 cards");
        for (int cards = 0; cards < 32; cards++) {
            Game g = Game.inPlay(4, 1, 2, 1).playOn(Game.WAYS[0], cards);
            due("bestCard() behind " + cards + " cards throws", cards < 20 ? 1 : 0, told(() -> g.made().bestCard()).equals(STATE) ? 1 : 0);
        }
    }

    /** For each card that can be played, whether as many tricks can be won with it. */
    static boolean[] best(History h) {
        int side = h.turn() % 2;
        List<Integer> legal = new ArrayList<>(h.legal());
        int[] tricks = new int[legal.size()];
        int most = 0;
        for (int i = 0; i < tricks.length; i++) {
            h.cards.add(legal.get(i));
            tricks[i] = h.bestFor(side);
            h.cards.remove(h.cards.size() - 1);
            most = Math.max(most, tricks[i]);
        }
        boolean[] best = new boolean[tricks.length];
        for (int i = 0; i < best.length; i++) {
            best[i] = tricks[i] == most;
        }
        return best;
    }

    static void bestCards(String what, boolean... pattern) {
        for (int side = 0; side < 2; side++) {
            int turn = side;
            for (Game g : Game.some(4, h -> h.cards.size() >= 22 && h.phase() == 2 && h.turn() % 2 == turn
                && h.legal().size() == pattern.length && Arrays.equals(best(h), pattern))) {
                int want = NONE;
                for (int i = pattern.length - 1; i >= 0; i--) {
                    want = pattern[i] ? g.now.legal().get(i) : want;
                }
                due("bestCard() where " + what, want, g.made().bestCard());
            }
        }
    }

    static void theLowestNumberOfTheBestCards() {
        says("promise 19: Returns the lowest number of a card .. with which as many tricks as most(0) tells can be won");
        bestCards("all three are best", true, true, true);
        bestCards("the second and the third are best", false, true, true);
        bestCards("the first and the third are best", true, false, true);
        bestCards("the first and the second are best", true, true, false);
        bestCards("both are best", true, true);
    }

    static void aCardThatIsNotTheLowest() {
        says("promise 19: with which as many tricks as most(0) tells can be won: not the lowest card, if that one wins less");
        bestCards("the third is best", false, false, true);
        bestCards("the second is best", false, true, false);
        bestCards("the first is best", true, false, false);
        bestCards("the second of two is best", false, true);
    }

    static void theBestCardWhileAllHave3Cards() {
        says("promise 19: the best card with the most cards that are allowed: 3 each, and 3 of all who are still to play");
        for (int p = 0; p < 4; p++) {
            int turn = p;
            for (int cards = 20; cards < 22; cards++) {
                int n = cards;
                for (Game g : Game.some(3, h -> h.cards.size() == n && h.turn() == turn)) {
                    due("bestCard() of " + p + " behind " + n + " cards", g.now.bestCard(), g.made().bestCard());
                }
            }
        }
    }

    static void aCardThatCanBePlayed() {
        says("promise 19: of a card that can be played now");
        for (Game g : Game.some(8, h -> h.cards.size() >= 20 && follows(h) && h.legal().size() < h.hand(h.turn()).size()
            && h.hand(h.turn()).get(0) != h.legal().get(0).intValue())) {
            int c = g.made().bestCard();
            due("play() of bestCard()", 0, g.made().play(c));
        }
        Game last = Game.one(h -> h.cards.size() == 31);
        due("bestCard() ahead of the last card", last.now.legal().get(0), last.made().bestCard());
    }

    public static void main(String[] args) {
        runAll(WouldBeTests.class);
    }
}

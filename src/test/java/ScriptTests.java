/** The promises 20 to 23, scripts, simulations and save slots: a test for each sentence that names a boundary. */
public final class ScriptTests extends Checks {
    /** The groups are put together; the index of the first one that fails is due. */
    static void script(String where, DropSignals x, int want, String... groups) {
        String digits = String.join("", groups);
        due("runScript(" + groups.length + ", " + digits + ") " + where, want, x.runScript(groups.length, Long.parseLong(digits)));
    }

    static void fails(String where, DropSignals x, String group) {
        script(where, x, 0, group);
    }

    static void succeeds(String where, DropSignals x, String group) {
        script(where, x, NONE, group);
    }

    // ---- promise 20: the numbers

    static void theNumberOfCommands() {
        says("promise 20: number of commands, 1 to 4; IllegalArgumentException if n is out of range");
        for (int n : new int[] {0, -1, 5, 6, Integer.MIN_VALUE, Integer.MAX_VALUE}) {
            refused("runScript(" + n + ", 0)", ARGUMENT, () -> new DropSignals().runScript(n, 0));
            refused("runScript(" + n + ", 1000)", ARGUMENT, () -> dealt(1).runScript(n, 1000));
        }
        due("runScript(1, ..)", NONE, new DropSignals().runScript(1, 1000L));
        due("runScript(2, ..)", NONE, new DropSignals().runScript(2, 10001000L));
        due("runScript(3, ..)", NONE, new DropSignals().runScript(3, 100010001000L));
        due("runScript(4, ..)", NONE, new DropSignals().runScript(4, 1000100010001000L));
    }

    static void theDigitsOfTheScript() {
        says("promise 20: IllegalArgumentException if script is negative or has more than 4 * n digits");
        long limit = 1;
        for (int n = 1; n <= 4; n++) {
            limit *= 10000;
            int commands = n;
            long most = limit - 1;
            due("runScript(" + n + ", " + most + ")", 0, new DropSignals().runScript(n, most));
            for (long script : new long[] {limit, limit + 1000, limit * 10, Long.MAX_VALUE, -1, -1000, -limit, Long.MIN_VALUE}) {
                refused("runScript(" + n + ", " + script + ")", ARGUMENT, () -> new DropSignals().runScript(commands, script));
            }
        }
    }

    static void theScript0() {
        says("promise 20: a number of at most 4 * n digits (0 or more)");
        for (int n = 1; n <= 4; n++) {
            due("runScript(" + n + ", 0)", 0, dealt(1).runScript(n, 0));
        }
    }

    static void zerosBeforeTheNumber() {
        says("promise 20: the first command is the highest group of the number (with zeros before it, if it has fewer digits)");
        due("runScript(2, 1000)", 0, new DropSignals().runScript(2, 1000));
        due("runScript(4, 100030003000)", 0, new DropSignals().runScript(4, 100030003000L));
        due("runScript(2, 10003000), a deal and then a pass", NONE, new DropSignals().runScript(2, 10003000L));
        due("runScript(2, 30001000), a pass and then a deal", 0, new DropSignals().runScript(2, 30001000L));
        due("runScript(1, 600)", 0, dealt(1).runScript(1, 600));
        due("runScript(1, 6000)", NONE, dealt(1).runScript(1, 6000));
    }

    static void theIndexOfTheFirstOneThatFails() {
        says("promise 20: Returns the index, from 0, of the first command that fails; NONE if all succeed");
        script("of 4 that succeed", dealt(1), NONE, "3000", "3000", "3000", "3000");
        script("that fails in the first one", dealt(1), 0, "0000", "3000", "3000", "3000");
        script("that fails in the second one", dealt(1), 1, "3000", "0000", "3000", "3000");
        script("that fails in the third one", dealt(1), 2, "3000", "3000", "0000", "3000");
        script("that fails in the fourth one", dealt(1), 3, "3000", "3000", "3000", "0000");
        script("that fails twice", dealt(1), 1, "3000", "0000", "0000", "3000");
        script("that fails in a pass too much", allPassed(1), 0, "3000", "1000", "3000", "3000");
    }

    // ---- promise 20: the commands

    static void command1() {
        says("promise 20: 1 0 n n: deal(nn)");
        for (int nn = 0; nn < 100; nn += 11) {
            String group = String.format("10%02d", nn);
            succeeds("without a deal", new DropSignals(), group);
            succeeds("in play", inPlay(1, 1, 1), group);
            succeeds("at the end", played(1), group);
            int[] owner = owners(nn);
            for (int c = 0; c < 32; c += 31) {
                script("and who has " + c, new DropSignals(), NONE, group, String.format("9%d%02d", owner[c], c));
                script("and who has not " + c, new DropSignals(), 1, group, String.format("9%d%02d", (owner[c] + 1) % 4, c));
            }
        }
        script("and whose turn it is", dealt(1), NONE, "1000", "6001", "3000", "6002");
        fails("with another digit for 0", new DropSignals(), "1100");
        fails("with another digit for 0", new DropSignals(), "1900");
    }

    static void command2() {
        says("promise 20: 2 l s 0: bid(l, s); fails if the method would throw an exception");
        for (int l = 0; l < 10; l++) {
            for (int s = 0; s < 10; s++) {
                boolean isBid = l >= 1 && l <= 4 && s <= 4;
                script("in bidding", dealt(1), isBid ? NONE : 0, "2" + l + s + "0");
                boolean isMore = isBid && 5 * l + s > 5 * 2 + 2;
                DropSignals x = dealt(1);
                x.bid(2, 2);
                script("behind bid(2, 2)", x, isMore ? NONE : 0, "2" + l + s + "0");
            }
        }
        fails("without a deal", new DropSignals(), "2100");
        fails("in play", inPlay(1, 1, 1), "2440");
        fails("at the end", played(1), "2440");
        fails("behind four passes", allPassed(1), "2440");
        fails("with another digit for 0", dealt(1), "2101");
        fails("with another digit for 0", dealt(1), "2109");
        script("and whose turn it is", dealt(1), NONE, "2100", "6001", "2110", "6002");
        script("and a bid that is not more", dealt(1), 1, "2110", "2100");
    }

    static void command3() {
        says("promise 20: 3 0 0 0: pass(); fails if the method would throw an exception");
        succeeds("in bidding", dealt(1), "3000");
        script("three of them behind a bid", dealt(1), NONE, "2100", "3000", "3000", "3000");
        DropSignals x = dealt(1);
        passes(x, 3);
        script("behind three passes", x, 1, "3000", "3000");
        fails("without a deal", new DropSignals(), "3000");
        fails("in play", inPlay(1, 1, 1), "3000");
        fails("at the end", played(1), "3000");
        fails("behind four passes", allPassed(1), "3000");
        for (String group : new String[] {"3001", "3009", "3010", "3090", "3100", "3900"}) {
            fails("with another digit for 0", dealt(1), group);
        }
    }

    static void command4() {
        says("promise 20: 4 0 c c: play(cc); succeeds if it is played");
        Game g = Game.one(h -> h.trick().size() == 1 && TermsTests.followers(h) > 0 && TermsTests.followers(h) < h.hand(h.turn()).size());
        for (int c = 0; c < 100; c++) {
            boolean fits = c < 32 && g.now.legal().contains(c);
            script("in play", g.made(), fits ? NONE : 0, String.format("40%02d", c));
        }
        int c = g.now.legal().get(0);
        script("a card twice", g.made(), 1, String.format("40%02d", c), String.format("40%02d", c));
        script("and whose turn it is", g.made(), NONE, String.format("40%02d", c), "600" + (g.now.turn() + 1) % 4);
        fails("with another digit for 0", g.made(), String.format("41%02d", c));
        for (int n = 0; n < 32; n++) {
            fails("without a deal", new DropSignals(), String.format("40%02d", n));
            fails("in bidding", dealt(1), String.format("40%02d", n));
            fails("at the end", played(1), String.format("40%02d", n));
        }
    }

    static void command5() {
        says("promise 20: 5 0 0 n: play() of the card that advice() tells, n times; fails if it tells none");
        for (int left = 0; left < 12; left++) {
            for (int n = 0; n < 10; n++) {
                Game g = Game.inPlay(3, 1, 1, 0).playOn(Game.WAYS[1], 32 - left);
                script("with " + left + " cards left", g.made(), n <= left ? NONE : 0, "500" + n);
            }
        }
        Game g = Game.inPlay(3, 1, 1, 0).playOn(Game.WAYS[1], 6);
        Game on = Game.inPlay(3, 1, 1, 0).playOn(Game.WAYS[1], 6).playOn(Game.WAYS[2], 5);
        script("and whose turn it is", g.made(), NONE, "5005", "600" + on.now.turn());
        int last = on.now.last();
        script("and the card that was played last", g.made(), 1, "5005", String.format("9%d%02d", on.now.lastPlayer(), last));
        script("and the card that was played last", g.made(), NONE, "5004", String.format("9%d%02d", on.now.lastPlayer(), last));
        script("all cards", inPlay(3, 1, 1), NONE, "5009", "5009", "5009", "5005");
        script("a card more", inPlay(3, 1, 1), 3, "5009", "5009", "5009", "5006");
        fails("without a deal", new DropSignals(), "5001");
        fails("in bidding", dealt(1), "5001");
        for (String group : new String[] {"5010", "5011", "5100", "5101", "5901", "5091"}) {
            fails("with another digit for 0", inPlay(1, 1, 1), group);
        }
    }

    static void command5WithN0() {
        says("promise 20: in 5, n as 0 always succeeds");
        succeeds("without a deal", new DropSignals(), "5000");
        succeeds("in bidding", dealt(1), "5000");
        succeeds("in play", inPlay(1, 1, 1), "5000");
        succeeds("at the end", played(1), "5000");
        succeeds("behind four passes", allPassed(1), "5000");
    }

    static void command6() {
        says("promise 20: 6 0 0 p: succeeds if it is the turn of the player p");
        for (int p = 0; p < 10; p++) {
            script("in bidding", dealt(1), p == 0 ? NONE : 0, "600" + p);
            script("in play", inPlay(1, 1, 1, 2), p == 3 ? NONE : 0, "600" + p);
            fails("without a deal", new DropSignals(), "600" + p);
            fails("at the end", played(1), "600" + p);
            fails("behind four passes", allPassed(1), "600" + p);
        }
        for (String group : new String[] {"6010", "6100", "6090", "6900"}) {
            fails("with another digit for 0", dealt(1), group);
        }
    }

    static void command7() {
        says("promise 20: 7 s 0 n: succeeds if the side s has won at least n tricks in this deal");
        for (int cards : new int[] {0, 3, 4, 15, 28, 32}) {
            Game g = Game.inPlay(5, 1, 4, 1).playOn(Game.WAYS[2], cards);
            for (int side = 0; side < 10; side++) {
                for (int n = 0; n < 10; n++) {
                    boolean has = side < 2 && g.now.tricks(side) >= n;
                    script("behind " + cards + " cards", g.made(), has ? NONE : 0, "7" + side + "0" + n);
                }
            }
        }
        Game all = TermsTests.ended(1, 1, 8);
        succeeds("behind 8 tricks", all.made(), "7108");
        fails("behind 8 tricks", all.made(), "7109");
        succeeds("behind no trick", all.made(), "7000");
        fails("behind no trick", all.made(), "7001");
        script("in the next deal", all.made(), 1, "1000", "7101");
        for (String group : new String[] {"7110", "7190"}) {
            fails("with another digit for 0", all.made(), group);
        }
    }

    static void command8() {
        says("promise 20: 8 p s w: succeeds if the signal of the player p in the suit s is w; a w above 2 fails");
        Game g = Game.one(h -> bothSignals(h));
        for (int p = 0; p < 10; p++) {
            for (int s = 0; s < 10; s++) {
                for (int w = 0; w < 10; w++) {
                    boolean is = p < 4 && s < 4 && g.now.signal(p, s) == w;
                    script("behind signals", g.made(), is ? NONE : 0, "8" + p + s + w);
                }
            }
        }
        for (int w = 0; w < 10; w++) {
            script("in bidding", dealt(1), w == 0 ? NONE : 0, "833" + w);
        }
    }

    static boolean bothSignals(History h) {
        int kinds = 0;
        for (int i = 0; i < 16; i++) {
            kinds |= 1 << h.signal(i / 4, i % 4);
        }
        return kinds == 7;
    }

    static void command9() {
        says("promise 20: 9 p c c: succeeds if the player p has the card cc");
        Game g = Game.inPlay(5, 1, 4, 1).playOn(Game.WAYS[2], 7);
        for (int p = 0; p < 10; p++) {
            for (int c = 0; c < 100; c++) {
                boolean has = p < 4 && c < 32 && g.now.holder(c) == p;
                script("behind seven cards", g.made(), has ? NONE : 0, String.format("9%d%02d", p, c));
            }
        }
        for (int c = 0; c < 32; c++) {
            fails("without a deal", new DropSignals(), String.format("90%02d", c));
            fails("at the end", played(1), String.format("90%02d", c));
        }
    }

    static void anyOtherGroup() {
        says("promise 20: and so does any other group");
        DropSignals[] points = {new DropSignals(), dealt(1), inPlay(1, 1, 1), advance(inPlay(1, 1, 1), 32)};
        for (DropSignals x : points) {
            for (int group = 0; group < 1000; group += 9) {
                due("runScript(1, " + group + ")", 0, x.runScript(1, group));
            }
            due("runScript(1, 999)", 0, x.runScript(1, 999));
        }
    }

    static void aScriptRunsOnACopy() {
        says("promise 20: Runs a script on a copy of the state");
        DropSignals x = dealt(1);
        script("", x, NONE, "2100", "3000", "3000", "3000");
        due("about(1)", 1, x.about(1));
        script("again", x, NONE, "2100", "3000", "3000", "3000");
        DropSignals y = inPlay(1, 1, 1);
        int strange = firstNotOf(y, 1);
        fails("a refused card", y, String.format("40%02d", strange));
        due("about(11)", 0, y.about(11));
        script("", y, NONE, "5009", "5009", "5009", "5005");
        due("scores", 0, y.about(7) + y.about(8));
        due("undo()", 4, y.undo());
    }

    // ---- promise 21: simulate

    static void theNumberOfTurns() {
        says("promise 21: m: number of turns, 1 to 200; IllegalArgumentException if m is out of range");
        for (int m : new int[] {0, -1, 201, Integer.MIN_VALUE, Integer.MAX_VALUE}) {
            refused("simulate(1, " + m + ")", ARGUMENT, () -> new DropSignals().simulate(1, m));
            refused("simulate(-1, " + m + ") in play", ARGUMENT, () -> inPlay(1, 1, 1).simulate(-1, m));
        }
        due("simulate(1, 1)", 1, new DropSignals().simulate(1, 1));
        must("simulate(1, 200) has some deals", new DropSignals().simulate(1, 200) % 100 > 1);
    }

    static long next(long x) {
        return x * 6364136223846793005L + 1442695040888963407L;
    }

    static void simulates(String where, Game g, long seed, int m) {
        due("simulate(" + seed + ", " + m + ") " + where, g.now.simulate(seed, m), g.made().simulate(seed, m));
    }

    static void anyLongIsASeedOfTurns() {
        says("promise 21: seed: any long; A long x starts as the seed. Each turn first replaces x");
        long[] seeds = {0, 1, -1, 7, Long.MAX_VALUE, Long.MIN_VALUE, 1L << 33, -987654321012345L};
        for (long seed : seeds) {
            for (int m : new int[] {1, 2, 3, 6, 20, 38, 41, 199, 200}) {
                simulates("without a deal", new Game(), seed, m);
            }
        }
    }

    static void turnsFromAnyState() {
        says("promise 21: m turns on a copy of the state, from any state");
        Game play = Game.one(h -> h.phase() == 2 && h.cards.size() == 13 && h.signals > 0);
        Game over = Game.one(h -> h.phase() == 3 && h.signals > h.trues);
        for (int seed = 0; seed < 12; seed++) {
            for (int m = 1; m <= 109; m += 9) {
                simulates("in play", play, seed, m);
                simulates("at the end", over, seed, m);
                simulates("in bidding", new Game().deal(1), seed, m);
                simulates("behind four passes", new Game().deal(1).passes(4), seed, m);
            }
        }
    }

    /** A seed whose first turn has r with this rest modulo 16. */
    static long seedWithRest(int rest) {
        for (long seed = 0; seed < 1000; seed++) {
            if ((int) (next(seed) >>> 33) % 16 == rest) {
                return seed;
            }
        }
        throw new IllegalStateException("no such seed");
    }

    static void withoutADealOrIfItIsOver() {
        says("promise 21: Without a deal, or if it is over: deal(q)");
        for (int rest = 0; rest < 16; rest++) {
            long seed = seedWithRest(rest);
            due("simulate(" + seed + ", 1) without a deal", 1, new DropSignals().simulate(seed, 1));
            due("simulate(" + seed + ", 1) at the end", 1, played(1).simulate(seed, 1));
            due("simulate(" + seed + ", 1) behind four passes", 1, allPassed(1).simulate(seed, 1));
            due("simulate(" + seed + ", 1) in bidding", 0, dealt(1).simulate(seed, 1));
            due("simulate(" + seed + ", 1) in play", 0, inPlay(1, 1, 1).simulate(seed, 1));
        }
    }

    static void bidsBelow6AndPassesFrom6On() {
        says("promise 21: In bidding: bid(..), if r % 16 is below 6, otherwise pass()");
        for (int rest = 0; rest < 16; rest++) {
            long seed = seedWithRest(rest);
            DropSignals x = dealt(1);
            passes(x, 3);
            // A fourth pass ends the deal, so that the second turn deals; a bid does not.
            due("simulate(" + seed + ", 2) behind three passes, the rest " + rest, rest < 6 ? 0 : 1, x.simulate(seed, 2));
        }
    }

    static void theBidOfATurn() {
        says("promise 21: bid(1 + q % 4, q / 4 % 5), and left out if it is not more");
        for (int value = 5; value < 25; value++) {
            long seed = seedWithBidAndPass(value);
            for (int latest = 5; latest < 25; latest++) {
                DropSignals x = dealt(1);
                x.bid(latest / 5, latest % 5);
                passes(x, 2);
                // Left out, the second turn's pass begins play, and behind 32 cards the 35th turn deals; made, play begins later.
                String call = "simulate(" + seed + ", 35), a turn with the bid " + value + " behind the bid " + latest;
                due("deals in " + call, value > latest ? 0 : 1, x.simulate(seed, 35) % 100);
            }
        }
    }

    static void divisionsAreRoundedDown() {
        says("Terms: All divisions are rounded down (q is r / 16, and q / 4)");
        int tried = 0;
        for (long seed = 0; seed < 2000; seed++) {
            int first = (int) (next(seed) >>> 33);
            int q = first / 16;
            int value = 5 * (1 + q % 4) + q / 4 % 5;
            int rounded = 5 * (1 + (q + 1) % 4) + (q + 1) / 4 % 5;
            int quarter = 5 * (1 + q % 4) + (q / 4 + 1) % 5;
            boolean fits = first % 16 > 0 && first % 16 < 6 && q % 4 > 0 && (int) (next(next(seed)) >>> 33) % 16 >= 6;
            for (int other : fits ? new int[] {rounded, quarter} : new int[0]) {
                // Behind the lower one of both bids, the higher one is made and the lower one is left out.
                int latest = Math.min(value, other);
                DropSignals x = dealt(1);
                x.bid(latest / 5, latest % 5);
                passes(x, 2);
                due("deals in simulate(" + seed + ", 35)", value > latest ? 0 : 1, x.simulate(seed, 35) % 100);
                tried++;
            }
        }
        must("such seeds were found", tried > 100);
    }

    /** A seed whose first turn is a bid, 5 times its level and its suit together, and the second one a pass. */
    static long seedWithBidAndPass(int value) {
        for (long seed = 0; seed < 100000; seed++) {
            int first = (int) (next(seed) >>> 33);
            int second = (int) (next(next(seed)) >>> 33);
            int q = first / 16;
            if (first % 16 < 6 && second % 16 >= 6 && 5 * (1 + q % 4) + q / 4 % 5 == value) {
                return seed;
            }
        }
        throw new IllegalStateException("no such seed");
    }

    static void whatWouldThrowIsLeftOut() {
        says("promise 21: What would throw an exception is left out");
        for (int rest = 0; rest < 6; rest++) {
            int bid = rest;
            Game g = new Game().deal(1).bid(4, 4);
            alike("simulate(.., 1), a bid behind the highest one", "0", told(() -> g.made().simulate(seedWithRest(bid), 1)));
        }
        for (int seed = 0; seed < 40; seed++) {
            simulates("behind the highest bid", new Game().deal(1).bid(4, 4), seed, 45);
        }
    }

    static void theCardsBelow8AndTheAdviceFrom8On() {
        says("promise 21: In play: the card legal(q modulo the cards that can be played), if r % 16 is below 8, otherwise that of advice()");
        // Of two cards the advised one, the lower one, is a second drop, so a signal; the other one is not small.
        Game g = Game.one(h -> h.phase() == 2 && WouldBeTests.stands(h, 1, 1) && h.legal().size() == 2);
        History behind = g.now.twin();
        int signal = behind.play(g.now.legal().get(0)) + 10000 + 100 * behind.truth(g.now.turn(), WouldBeTests.led(g.now));
        for (int rest = 0; rest < 16; rest++) {
            for (int k = 0; k < 2; k++) {
                long seed = seedWithRestAndChoice(rest, k);
                int want = rest >= 8 || k == 0 ? signal : 0;
                due("simulate(" + seed + ", 1), the rest " + rest + ", legal(" + k + ")", want, g.made().simulate(seed, 1));
            }
        }
    }

    /** The seed whose first turn has this r: the step from x to the next one, gone backwards. */
    static long seedWith(int r) {
        long inverse = 1;
        for (int i = 0; i < 6; i++) {
            inverse *= 2 - 6364136223846793005L * inverse;
        }
        return (((long) r << 33) - 1442695040888963407L) * inverse;
    }

    static void theLowestAndTheHighestR() {
        says("promise 21: r = (int) (x >>> 33) is computed: from 0 to the highest int; q is r / 16, 0 too");
        // Of two small cards the lower one would lie; the higher one is advised.
        Game g = Game.one(h -> WouldBeTests.stands(h, 1, 2) && !WouldBeTests.dealtEven(h) && WouldBeTests.between(h));
        for (int r = 0; r < 16; r++) {
            due("simulate() of a turn with r = " + r + " in play", r < 8 ? 10000 : 10100, g.made().simulate(seedWith(r), 1));
        }
        for (int r : new int[] {0, 1, 15, 16, Integer.MAX_VALUE - 15, Integer.MAX_VALUE}) {
            for (int m = 1; m < 60; m += 7) {
                simulates("with r = " + r + " first, without a deal", new Game(), seedWith(r), m);
                simulates("with r = " + r + " first, in bidding", new Game().deal(1).bid(1, 0).passes(2), seedWith(r), m);
                simulates("with r = " + r + " first, in play", g, seedWith(r), m);
            }
        }
    }

    /** A seed whose first turn has r with this rest, and q with this number modulo two cards. */
    static long seedWithRestAndChoice(int rest, int which) {
        for (long seed = 0; seed < 10000; seed++) {
            int r = (int) (next(seed) >>> 33);
            if (r % 16 == rest && r / 16 % 2 == which) {
                return seed;
            }
        }
        throw new IllegalStateException("no such seed");
    }

    static void onlyWhatHappensInTheTurnsIsTold() {
        says("promise 21: Returns 10000 * (the signals in the turns) + 100 * (the true ones of these) + (the deals in the turns)");
        Game g = Game.one(h -> h.phase() == 3 && h.signals > h.trues && h.trues > 0);
        due("simulate(0, 1) behind a deal with signals", 1, g.made().simulate(0, 1));
        Game truth = Game.one(h -> TermsTests.dropped(h, 2) && h.truth(h.lastPlayer(), h.last() / 8) == 1 && h.last() == advisedBefore(h));
        due("simulate() of a true signal", 10100, truth.back().made().simulate(seedWithRest(8), 1));
        Game lie = Game.one(h -> TermsTests.dropped(h, 2) && h.truth(h.lastPlayer(), h.last() / 8) == 0 && h.last() == advisedBefore(h));
        due("simulate() of a signal that lies", 10000, lie.back().made().simulate(seedWithRest(15), 1));
        int signals = 0;
        int trues = 0;
        for (int seed = 0; seed < 20; seed++) {
            int got = dealt(1).simulate(seed, 200);
            signals += got / 10000;
            trues += got / 100 % 100;
        }
        must("signals and true ones came up in the turns", signals > trues && trues > 0);
    }

    /** The card that was advised ahead of the last card. */
    static int advisedBefore(History h) {
        int last = h.cards.remove(h.cards.size() - 1);
        int c = h.advice();
        h.cards.add(last);
        return c;
    }

    static void turnsAreOnACopy() {
        says("promise 21: on a copy of the state");
        DropSignals x = inPlay(1, 1, 1);
        int first = x.simulate(3, 100);
        due("simulate(3, 100) again", first, x.simulate(3, 100));
        due("about(0)", 1, x.about(0));
        due("cardOf() of a card that is in hand still", NONE, x.cardOf(x.legal(0), 2));
        due("undo()", 4, x.undo());
    }

    // ---- promise 22: save

    static void theSlotOfSave() {
        says("promise 22: IndexOutOfBoundsException if there is no such save slot (0 or 1)");
        for (int slot : new int[] {-1, 2, Integer.MIN_VALUE, Integer.MAX_VALUE}) {
            refused("save(" + slot + ")", INDEX, () -> new DropSignals().save(slot));
            refused("save(" + slot + ") in play", INDEX, () -> inPlay(1, 1, 1).save(slot));
        }
        due("save(0)", 0, new DropSignals().save(0));
        due("save(1)", 0, new DropSignals().save(1));
    }

    static void saveAnswersTheDealsSoFar() {
        says("promise 22: Returns the deals so far");
        DropSignals x = new DropSignals();
        for (int i = 0; i < 5; i++) {
            due("save(0) behind " + i + " deals", i, x.save(0));
            due("save(1) behind " + i + " deals", i, x.save(1));
            x.deal(i);
        }
        x.undo();
        due("save(0) behind undo()", 4, x.save(0));
        due("save(0) behind a whole deal", 1, played(1).save(0));
    }

    static void saveStoresThePresentState() {
        says("promise 22: Stores the present state in a save slot");
        Game play = Game.one(h -> h.trick().size() == 2 && h.signals > h.trues && h.trues > 0);
        Game over = Game.one(h -> h.phase() == 3 && h.signals > h.trues);
        DropSignals[] points = {new DropSignals(), dealt(1), WouldBeTests.bidding(), play.made(), over.made(), allPassed(1)};
        DropSignals[] same = {new DropSignals(), dealt(1), WouldBeTests.bidding(), play.made(), over.made(), allPassed(1)};
        for (int i = 0; i < points.length; i++) {
            DropSignals x = points[i];
            x.save(i % 2);
            x.deal(77);
            x.bid(1, 1);
            passes(x, 3);
            x.play(firstNotOf(x, x.about(2)));
            advance(x, 32);
            x.restore(i % 2);
            alike("the state behind restore()", all(same[i]), all(x));
        }
    }

    static void aLaterSaveReplacesTheOneBefore() {
        says("promise 22: Stores: what the slot had is replaced");
        DropSignals x = dealt(1);
        x.save(0);
        x.deal(2);
        x.save(0);
        x.deal(3);
        due("restore(0)", 2, x.restore(0));
    }

    static void theSlotsAreApart() {
        says("promise 22: in a save slot: the other one keeps its own");
        DropSignals x = dealt(1);
        x.save(0);
        x.deal(2);
        x.save(1);
        x.deal(3);
        due("restore(0)", 1, x.restore(0));
        due("restore(1)", 2, x.restore(1));
        DropSignals y = dealt(1);
        y.save(1);
        refused("restore(0) with the slot 1 used", STATE, () -> y.restore(0));
        DropSignals z = dealt(1);
        z.save(0);
        refused("restore(1) with the slot 0 used", STATE, () -> z.restore(1));
    }

    static void saveKeepsEverythingElse() {
        says("promise 22: save changes nothing but the slot");
        DropSignals x = write(inPlay(1, 1, 1), "Vd");
        String before = all(x);
        x.save(0);
        alike("the state behind save()", before, all(x));
        due("undo() behind save()", 4, x.undo());
        due("clearText() behind save()", 2, x.clearText());
    }

    // ---- promise 23: restore

    static void theSlotOfRestore() {
        says("promise 23: IndexOutOfBoundsException if there is no such save slot");
        for (int slot : new int[] {-1, 2, Integer.MIN_VALUE, Integer.MAX_VALUE}) {
            DropSignals x = dealt(1);
            x.save(0);
            x.save(1);
            refused("restore(" + slot + ")", INDEX, () -> x.restore(slot));
            refused("restore(" + slot + ") with nothing saved", INDEX, () -> new DropSignals().restore(slot));
        }
    }

    static void nothingHasBeenSaved() {
        says("promise 23: IllegalStateException if nothing has been saved in it since the last load");
        refused("restore(0) of a new object", STATE, () -> new DropSignals().restore(0));
        refused("restore(1) of a new object", STATE, () -> new DropSignals().restore(1));
        for (int slot = 0; slot < 2; slot++) {
            int s = slot;
            DropSignals x = write(dealt(1), "Vd00d00");
            x.save(0);
            x.save(1);
            x.load();
            refused("restore(" + slot + ") behind load()", STATE, () -> x.restore(s));
            x.deal(1);
            due("save(" + slot + ")", 3, x.save(s));
            due("restore(" + slot + ") behind load() and save()", 3, x.restore(s));
            refused("restore(" + (1 - slot) + ")", STATE, () -> x.restore(1 - s));
        }
        DropSignals y = write(dealt(1), "Vd0");
        y.save(0);
        told(y::load);
        due("restore(0) behind a load() that threw", 1, y.restore(0));
    }

    static void restoreReplacesTheState() {
        says("promise 23: Replaces the state by the one in a save slot; Returns the deals so far then");
        DropSignals x = new DropSignals();
        x.save(0);
        x.deal(1);
        x.deal(2);
        x.save(1);
        x.deal(3);
        due("restore(1)", 2, x.restore(1));
        due("about(0)", 2, x.about(0));
        due("restore(0), of no deal", 0, x.restore(0));
        alike("the state behind restore(0)", all(new DropSignals()), all(x));
    }

    static void restoreForgetsAllRememberedStates() {
        says("promise 23: and forgets all remembered states");
        DropSignals x = dealt(1);
        x.save(0);
        x.deal(2);
        x.restore(0);
        refused("undo() behind restore()", STATE, x::undo);
        x.deal(3);
        due("undo() behind one action", 0, x.undo());
        due("about(0)", 1, x.about(0));
        refused("undo() once more", STATE, x::undo);
        for (int i = 0; i < 20; i++) {
            x.deal(i);
        }
        x.restore(0);
        refused("undo() behind 20 actions and restore()", STATE, x::undo);
    }

    static void theSlotKeepsIt() {
        says("promise 23: The save slot keeps it");
        DropSignals x = inPlay(1, 1, 1);
        x.save(1);
        for (int i = 0; i < 3; i++) {
            advance(x, 20 + i);
            due("restore(1) number " + (i + 1), 1, x.restore(1));
        }
        alike("the state behind them", all(inPlay(1, 1, 1)), all(x));
    }

    static void aRestoreThatThrowsChangesNothing() {
        says("EXCEPTIONS: A call that throws an exception changes nothing (restore)");
        DropSignals x = inPlay(1, 1, 1);
        refused("restore(0)", STATE, () -> x.restore(0));
        refused("restore(2)", INDEX, () -> x.restore(2));
        due("undo()", 4, x.undo());
        due("about(0)", 1, x.about(0));
    }

    public static void main(String[] args) {
        runAll(ScriptTests.class);
    }
}

import java.util.Arrays;

/** For each promise of the document: ordinary inputs, the edges that are named, and wrong inputs. */
public final class PromiseTests extends Checks {
    static void same(String call, DropSignals want, DropSignals got) {
        alike("the state behind " + call, all(want), all(got));
    }

    static void newObject() {
        says("promise 1");
        DropSignals x = new DropSignals();
        int[] want = {0, 0, NONE, 0, NONE, 0, 0, 0, 0, 0, 0, 0};
        for (int i = 0; i < 12; i++) {
            due("about(" + i + ")", want[i], x.about(i));
        }
        due("errorPosition()", 0, x.errorPosition());
        refused("undo()", STATE, x::undo);
        refused("restore(0)", STATE, () -> x.restore(0));
        refused("restore(1)", STATE, () -> x.restore(1));
        due("clearText()", 0, x.clearText());
        due("NONE", -1, NONE);
    }

    static void append() {
        says("promise 2");
        DropSignals x = new DropSignals();
        refused("append(-1)", ARGUMENT, () -> x.append(-1));
        refused("append(256)", ARGUMENT, () -> x.append(256));
        due("append(0)", 1, x.append(0));
        due("append(255)", 2, x.append(255));
        for (int i = 3; i <= 120; i++) {
            due("append('p')", i, x.append('p'));
        }
        refused("append('p') to a full text", STATE, () -> x.append('p'));
        refused("append(256) to a full text", ARGUMENT, () -> x.append(256));
        refused("append(-1) to a full text", ARGUMENT, () -> x.append(-1));
        due("clearText() of a full text", 120, x.clearText());
        due("append() again", 1, x.append('V'));
    }

    static void clearText() {
        says("promise 3");
        DropSignals x = new DropSignals();
        due("clearText()", 0, x.clearText());
        write(x, "Vdx");
        due("errorPosition()", 2, x.errorPosition());
        due("clearText()", 3, x.clearText());
        due("clearText()", 0, x.clearText());
        due("errorPosition()", 0, x.errorPosition());
        x.deal(1);
        x.append('V');
        x.clearText();
        due("deals behind clearText()", 1, x.about(0));
        due("undo() behind clearText()", 0, x.undo());
    }

    static void errorPosition() {
        says("promise 4");
        String[] good = {"V", "Vp", "Va", "Vd00", "Vd99", "Vb10", "Vb44", "Vc00", "Vc09", "Vc19", "Vc29", "Vc30", "Vc31",
            "Vd07b13pppaac12", "Vpppppppp", "Vaaaaad00"};
        for (String text : good) {
            due("errorPosition() of " + text, NONE, write(new DropSignals(), text).errorPosition());
        }
        String[] bad = {"", "v", "dV", " V", "V ", "Vx", "VV", "Vd", "Vd0", "Vdp", "Vd0p", "Vb", "Vb0", "Vb5", "Vb1", "Vb15",
            "Vb4p", "Vc", "Vc3", "Vc4", "Vc32", "Vc39", "Vc2", "Vc2p", "Vp0", "Va1", "Vd001", "Vb100", "Vc000", "VP",
            "Vd00b1", "Vd:0", "Vd/0", "Vd0:", "Vc0/", "Vpppd0\n", "V\u0000", "V\u00ff"};
        int[] at = {0, 0, 0, 0, 1, 1, 1, 2, 3, 2, 3, 2, 2, 2, 3, 3,
            3, 2, 3, 2, 3, 3, 3, 3, 2, 2, 4, 4, 4, 1,
            6, 2, 2, 3, 3, 6, 1, 1};
        for (int i = 0; i < bad.length; i++) {
            due("errorPosition() of " + bad[i], at[i], write(new DropSignals(), bad[i]).errorPosition());
        }
        char[] long120 = new char[120];
        Arrays.fill(long120, 'p');
        long120[0] = 'V';
        due("errorPosition() of 120 characters", NONE, write(new DropSignals(), new String(long120)).errorPosition());
        long120[119] = 'c';
        due("errorPosition() that ends too soon", 120, write(new DropSignals(), new String(long120)).errorPosition());
    }

    static void load() {
        says("promise 5");
        DropSignals x = new DropSignals();
        refused("load() of no text", STATE, x::load);
        x.deal(5);
        x.save(0);
        x.bid(1, 1);
        write(x, "Vd0");
        refused("load() of Vd0", STATE, x::load);
        due("clearText() behind a load() that threw", 3, x.clearText());
        due("deals behind a load() that threw", 1, x.about(0));
        due("undo() behind a load() that threw", 1, x.undo());
        due("restore(0) behind a load() that threw", 1, x.restore(0));
        Game g = new Game();
        while (g.now.signals == 0 || g.now.trues == 0 || g.now.score0 == 0 || g.now.score1 == 0) {
            g.deal(g.now.deals).contract(1, g.now.deals % 5, 0);
            g.play(g.now.hand(g.now.declarer()).get(0)).playOn(Game.WAYS[2], 32);
        }
        DropSignals u = write(g.made(), "V");
        due("load() of V", 0, u.load());
        same("load() of V", new DropSignals(), u);
        due("clearText() behind load()", 1, u.clearText());
        refused("undo() behind load()", STATE, u::undo);
        refused("restore(0) behind load()", STATE, () -> u.restore(0));
        refused("restore(1) behind load()", STATE, () -> u.restore(1));

        due("load() of pass and bid without a deal", 3, write(new DropSignals(), "Vpb10c00aa").load());
        due("load() of low bids", 3, write(new DropSignals(), "Vd00b20b20b14pb24b23").load());
        due("load() of commands behind the deal", 2, write(new DropSignals(), "Vd00ppppb10p").load());
        due("load() of bids in play", 2, write(new DropSignals(), "Vd00b10pppb20p").load());

        DropSignals y = loaded("Vd07b13ppp");
        DropSignals z = inPlay(7, 1, 3);
        refused("undo() behind load()", STATE, y::undo);
        same("load()", z, y);
        int own = y.legal(0);
        int other = 0;
        while (owners(7)[other] == 1) {
            other++;
        }
        DropSignals w = write(new DropSignals(), String.format("Vd07b13pppc%02dc%02daa", other, own));
        due("load() with a card that cannot be played", 1, w.load());
        due("refused behind load()", 0, w.about(11));
        DropSignals v = inPlay(7, 1, 3);
        v.play(own);
        v.play(v.advice());
        v.play(v.advice());
        same("load() with cards", v, w);
        due("clearText()", 18, w.clearText());
    }

    static void about() {
        says("promise 6");
        DropSignals x = new DropSignals();
        refused("about(-1)", ARGUMENT, () -> x.about(-1));
        refused("about(12)", ARGUMENT, () -> x.about(12));
        x.deal(3);
        due("about(0)", 1, x.about(0));
        due("about(1)", 1, x.about(1));
        due("about(2)", 0, x.about(2));
        due("about(3) without a bid", 0, x.about(3));
        due("about(4) in bidding", NONE, x.about(4));
        x.pass();
        x.bid(2, 3);
        due("about(2)", 2, x.about(2));
        due("about(3)", 23, x.about(3));
        due("about(4) in bidding", NONE, x.about(4));
        x.pass();
        x.pass();
        x.pass();
        due("about(1)", 2, x.about(1));
        due("about(2)", 2, x.about(2));
        due("about(3) in play", 23, x.about(3));
        due("about(4)", 1, x.about(4));
        x.play(x.cardOf(0, 0) == 2 ? firstOf(x, 3) : firstNotOf(x, 2));
        due("about(11)", 1, x.about(11));
        advance(x, 32);
        due("about(1) at the end", 3, x.about(1));
        due("about(2) at the end", NONE, x.about(2));
        due("about(3) at the end", 23, x.about(3));
        due("about(4) at the end", 1, x.about(4));
        due("about(5) and about(6)", 8, x.about(5) + x.about(6));
        x.deal(4);
        due("about(3) in the next deal", 0, x.about(3));
        due("about(4) in the next deal", NONE, x.about(4));
        due("about(5) in the next deal", 0, x.about(5) + x.about(6));
        due("about(2) in the next deal", 1, x.about(2));
        due("about(11) in the next deal", 1, x.about(11));
        for (int i = 0; i < 4; i++) {
            x.pass();
        }
        due("about(1) behind four passes", 3, x.about(1));
        due("about(2) behind four passes", NONE, x.about(2));
        due("about(4) without a contract", NONE, x.about(4));
    }

    static void cardOf() {
        says("promise 7");
        DropSignals x = new DropSignals();
        refused("cardOf(-1, 0)", INDEX, () -> x.cardOf(-1, 0));
        refused("cardOf(32, 0)", INDEX, () -> x.cardOf(32, 0));
        refused("cardOf(32, 3)", INDEX, () -> x.cardOf(32, 3));
        refused("cardOf(0, -1)", ARGUMENT, () -> x.cardOf(0, -1));
        refused("cardOf(31, 3)", ARGUMENT, () -> x.cardOf(31, 3));
        for (int i = 0; i < 96; i++) {
            due("cardOf() without a deal", NONE, x.cardOf(i / 3, i % 3));
        }
        int[] owner = owners(11);
        DropSignals y = inPlay(11, 1, 4);
        int[] played = new int[6];
        for (int i = 0; i < 6; i++) {
            played[i] = y.advice();
            y.play(played[i]);
        }
        for (int c = 0; c < 32; c++) {
            int when = NONE;
            for (int i = 0; i < 6; i++) {
                when = played[i] == c ? i : when;
            }
            due("cardOf(" + c + ", 0)", when == NONE ? owner[c] : NONE, y.cardOf(c, 0));
            due("cardOf(" + c + ", 1)", owner[c], y.cardOf(c, 1));
            due("cardOf(" + c + ", 2)", when, y.cardOf(c, 2));
        }
        y.deal(12);
        for (int c = 0; c < 32; c++) {
            due("cardOf(" + c + ", 0) in the next deal", owners(12)[c], y.cardOf(c, 0));
            due("cardOf(" + c + ", 2) in the next deal", NONE, y.cardOf(c, 2));
        }
    }

    static void suitOf() {
        says("promise 8");
        DropSignals x = new DropSignals();
        refused("suitOf(-1, 0, 0)", INDEX, () -> x.suitOf(-1, 0, 0));
        refused("suitOf(4, 0, 0)", INDEX, () -> x.suitOf(4, 0, 0));
        refused("suitOf(0, -1, 0)", INDEX, () -> x.suitOf(0, -1, 0));
        refused("suitOf(0, 4, 9)", INDEX, () -> x.suitOf(0, 4, 9));
        refused("suitOf(0, 0, -1)", ARGUMENT, () -> x.suitOf(0, 0, -1));
        refused("suitOf(0, 0, 6)", ARGUMENT, () -> x.suitOf(0, 0, 6));
        for (int i = 0; i < 96; i++) {
            due("suitOf() without a deal", i % 6 == 4 ? NONE : 0, x.suitOf(i / 24, i / 6 % 4, i % 6));
        }
        int signals = 0;
        int lies = 0;
        int nones = 0;
        for (int seed = 0; seed < 30; seed++) {
            DropSignals y = inPlay(seed, 1, seed % 5);
            int[] owner = owners(seed);
            int[] drops = new int[16];
            int[] first = new int[16];
            int[] signal = new int[16];
            int[] none = new int[16];
            int[] left = new int[16];
            int[] dealt = new int[16];
            int[] cards = new int[28];
            for (int c = 0; c < 32; c++) {
                left[owner[c] * 4 + c / 8]++;
                dealt[owner[c] * 4 + c / 8]++;
            }
            for (int turn = 0; turn < 28; turn++) {
                int p = y.about(2);
                int led = y.trick(0);
                // The last card that can be played, so that signals lie too.
                int c = y.legal(0);
                for (int k = 1; k < 8 && seed % 2 == 0; k++) {
                    c = y.legal(k) == NONE || y.legal(k) % 8 > 3 ? c : y.legal(k);
                }
                y.play(c);
                cards[turn] = c;
                left[p * 4 + c / 8]--;
                if (led != NONE && led / 8 != c / 8) {
                    none[p * 4 + led / 8] = 1;
                } else if (led != NONE && c % 8 < 4) {
                    int i = p * 4 + c / 8;
                    drops[i]++;
                    if (drops[i] == 1) {
                        first[i] = c;
                    } else if (drops[i] == 2) {
                        signal[i] = first[i] > c ? 2 : 1;
                    }
                }
            }
            DropSignals z = inPlay(seed, 1, seed % 5);
            for (int c : cards) {
                z.play(c);
            }
            int trues = 0;
            int sum = 0;
            for (int i = 0; i < 16; i++) {
                boolean isTrue = signal[i] == (dealt[i] % 2 == 0 ? 2 : 1);
                int truth = signal[i] == 0 ? NONE : isTrue ? 1 : 0;
                int[] want = {left[i], dealt[i], drops[i], signal[i], truth, none[i]};
                for (int what = 0; what < 6; what++) {
                    due("suitOf(" + i / 4 + ", " + i % 4 + ", " + what + ")", want[what], z.suitOf(i / 4, i % 4, what));
                }
                sum += signal[i] > 0 ? 1 : 0;
                trues += truth == 1 ? 1 : 0;
                lies += truth == 0 ? 1 : 0;
                nones += none[i];
            }
            due("about(9)", sum, z.about(9));
            due("about(10)", trues, z.about(10));
            signals += sum;
            z.deal(1);
            due("about(9) in the next deal", sum, z.about(9));
            due("about(10) in the next deal", trues, z.about(10));
            for (int i = 0; i < 16; i++) {
                due("drops in the next deal", 0, z.suitOf(i / 4, i % 4, 2) + z.suitOf(i / 4, i % 4, 3) + z.suitOf(i / 4, i % 4, 5));
            }
        }
        due("these deals had signals, lies and shown ends", 1, signals > 5 && lies > 0 && nones > 0 ? 1 : 0);
    }

    static void trick() {
        says("promise 9");
        DropSignals x = inPlay(21, 1, 0);
        refused("trick(-1)", INDEX, () -> x.trick(-1));
        refused("trick(4)", INDEX, () -> x.trick(4));
        int[] laid = new int[4];
        for (int i = 0; i < 3; i++) {
            for (int k = i; k < 4; k++) {
                due("trick(" + k + ")", NONE, x.trick(k));
            }
            laid[i] = x.advice();
            x.play(laid[i]);
            for (int k = 0; k <= i; k++) {
                due("trick(" + k + ")", laid[k], x.trick(k));
            }
        }
        x.play(x.advice());
        for (int k = 0; k < 4; k++) {
            due("trick(" + k + ") behind four cards", NONE, x.trick(k));
        }
        x.play(x.advice());
        x.deal(1);
        due("trick(0) in the next deal", NONE, x.trick(0));
    }

    static void deal() {
        says("promise 10");
        long[] seeds = {0, 1, -1, 99, Long.MIN_VALUE, Long.MAX_VALUE, 1234567890123L};
        DropSignals x = new DropSignals();
        for (int i = 0; i < seeds.length; i++) {
            due("deal()", i + 1, x.deal(seeds[i]));
            due("first to bid", i % 4, x.about(2));
            for (int c = 0; c < 32; c++) {
                due("cardOf(" + c + ", 1)", owners(seeds[i])[c], x.cardOf(c, 1));
            }
        }
        DropSignals y = inPlay(3, 1, 1);
        advance(y, 17);
        due("deal() in play", 2, y.deal(3));
        due("bidding behind deal()", 1, y.about(1));
        due("scores behind a deal that is cut off", 0, y.about(7) + y.about(8));
    }

    static void bid() {
        says("promise 11");
        DropSignals x = new DropSignals();
        refused("bid(1, 0) without a deal", STATE, () -> x.bid(1, 0));
        refused("bid(0, 0) without a deal", ARGUMENT, () -> x.bid(0, 0));
        x.deal(0);
        refused("bid(0, 0)", ARGUMENT, () -> x.bid(0, 0));
        refused("bid(5, 0)", ARGUMENT, () -> x.bid(5, 0));
        refused("bid(1, -1)", ARGUMENT, () -> x.bid(1, -1));
        refused("bid(1, 5)", ARGUMENT, () -> x.bid(1, 5));
        due("bid(1, 0)", 1, x.bid(1, 0));
        refused("bid(1, 0) again", STATE, () -> x.bid(1, 0));
        due("bid(1, 4)", 2, x.bid(1, 4));
        refused("bid(1, 3)", STATE, () -> x.bid(1, 3));
        due("bid(2, 0)", 3, x.bid(2, 0));
        due("bid(4, 3)", 0, x.bid(4, 3));
        refused("bid(3, 4)", STATE, () -> x.bid(3, 4));
        due("bid(4, 4)", 1, x.bid(4, 4));
        refused("bid(4, 4) again", STATE, () -> x.bid(4, 4));
        refused("bid(5, 5) behind the highest", ARGUMENT, () -> x.bid(5, 5));
        due("about(3)", 44, x.about(3));
        x.pass();
        x.pass();
        x.pass();
        refused("bid(4, 4) in play", STATE, () -> x.bid(4, 4));
        due("declarer", 0, x.about(4));
    }

    static void pass() {
        says("promise 12");
        DropSignals x = new DropSignals();
        refused("pass() without a deal", STATE, x::pass);
        x.deal(0);
        due("pass() 1", 1, x.pass());
        due("turn", 1, x.about(2));
        due("pass() 2", 1, x.pass());
        due("pass() 3", 1, x.pass());
        due("bid behind three passes", 0, x.bid(1, 2));
        due("pass() 1 behind a bid", 1, x.pass());
        due("pass() 2 behind a bid", 1, x.pass());
        due("bid behind two passes", 3, x.bid(1, 3));
        due("pass() 1", 1, x.pass());
        due("pass() 2", 1, x.pass());
        due("pass() 3", 2, x.pass());
        due("declarer", 2, x.about(4));
        due("leader", 3, x.about(2));
        refused("pass() in play", STATE, x::pass);
        x.deal(0);
        x.pass();
        x.pass();
        x.pass();
        due("pass() 4", 3, x.pass());
        refused("pass() behind the deal", STATE, x::pass);
        due("scores without a contract", 0, x.about(7) + x.about(8));
    }

    static void play() {
        says("promise 13");
        DropSignals x = new DropSignals();
        refused("play(-1)", INDEX, () -> x.play(-1));
        refused("play(32)", INDEX, () -> x.play(32));
        refused("play(0) without a deal", STATE, () -> x.play(0));
        x.deal(2);
        refused("play(0) in bidding", STATE, () -> x.play(0));
        int reasons = 0;
        int outcomes = 0;
        for (int seed = 0; seed < 40; seed++) {
            int trumps = seed % 5;
            int level = 1 + seed % 4;
            int declarer = seed / 3 % 4;
            DropSignals y = inPlay(seed, level, trumps, declarer);
            int[] owner = owners(seed);
            boolean[] gone = new boolean[32];
            int[] tricks = new int[2];
            int refusals = 0;
            int p = (declarer + 1) % 4;
            for (int t = 0; t < 8; t++) {
                int[] cards = new int[4];
                for (int i = 0; i < 4; i++) {
                    due("turn", p, y.about(2));
                    boolean has = false;
                    for (int c = 0; c < 32; c++) {
                        has |= i > 0 && owner[c] == p && !gone[c] && c / 8 == cards[0] / 8;
                    }
                    int fit = NONE;
                    for (int n = 0; n < 32; n++) {
                        int c = (n * 5 + seed) % 32;
                        int reason = owner[c] != p || gone[c] ? 1 : has && c / 8 != cards[0] / 8 ? 2 : 0;
                        if (reason == 0) {
                            fit = c;
                        } else if (n % 8 == t && refusals < 20) {
                            due("play(" + c + ")", reason, y.play(c));
                            refusals++;
                            reasons |= reason;
                        }
                    }
                    due("play(" + fit + ")", 0, y.play(fit));
                    gone[fit] = true;
                    cards[i] = fit;
                    p = (p + 1) % 4;
                }
                int best = 0;
                for (int i = 1; i < 4; i++) {
                    boolean higher = cards[i] / 8 == cards[best] / 8 && cards[i] > cards[best];
                    boolean ruffs = cards[i] / 8 == trumps && cards[best] / 8 != trumps;
                    best = higher || ruffs ? i : best;
                }
                p = (p + best) % 4;
                tricks[p % 2]++;
                due("about(5)", tricks[0], y.about(5));
                due("about(6)", tricks[1], y.about(6));
                due("about(11)", refusals, y.about(11));
            }
            int side = declarer % 2;
            int more = tricks[side] - 4 - level;
            due("the declarer's score", more >= 0 ? 10 * level + 2 * more : 0, y.about(7 + side));
            due("the other score", more >= 0 ? 0 : -10 * more, y.about(8 - side));
            outcomes |= (more >= 0 ? 1 : 2) << 2 * side;
            refused("play(0) at the end", STATE, () -> y.play(0));
            refused("play(32) at the end", INDEX, () -> y.play(32));
        }
        due("both reasons came up", 3, reasons);
        due("both sides won and lost contracts", 15, outcomes);
    }

    static void undo() {
        says("promise 14");
        DropSignals x = new DropSignals();
        refused("undo()", STATE, x::undo);
        for (int i = 1; i <= 14; i++) {
            x.deal(i);
        }
        due("undo()", 13, x.undo());
        due("deals", 13, x.about(0));
        x.deal(20);
        x.deal(21);
        x.deal(22);
        for (int i = 13; i >= 0; i--) {
            due("undo()", i, x.undo());
        }
        due("deals", 2, x.about(0));
        refused("undo() with none remembered", STATE, x::undo);

        DropSignals y = inPlay(8, 1, 1);
        String before = all(inPlay(8, 1, 1));
        int strange = firstNotOf(y, 1);
        due("play() of a strange card", 1, y.play(strange));
        due("about(11)", 1, y.about(11));
        due("undo() of a refused card", 5, y.undo());
        due("about(11)", 0, y.about(11));
        due("the state behind undo()", 1, before.equals(all(y)) ? 1 : 0);
        refused("bid()", STATE, () -> y.bid(4, 4));
        y.save(0);
        y.advice();
        y.simulate(1, 5);
        y.runScript(1, 1000);
        due("undo() behind what is no action", 4, y.undo());
        due("bidding again", 1, y.about(1));
        due("passes are taken back too", 2, y.pass());

        Game g = Game.inPlay(9, 1, 1, 0).playOn(Game.WAYS[2], 14);
        Game earlier = g;
        for (int back = 1; back <= 14; back++) {
            DropSignals z = g.made();
            for (int i = 0; i < back; i++) {
                due("undo()", 13 - i, z.undo());
            }
            earlier = earlier.back();
            same(back + " undo()", earlier.made(), z);
        }
    }

    static void legal() {
        says("promise 15");
        DropSignals x = new DropSignals();
        refused("legal(-1)", INDEX, () -> x.legal(-1));
        refused("legal(8)", INDEX, () -> x.legal(8));
        due("legal(0) without a deal", NONE, x.legal(0));
        x.deal(1);
        due("legal(0) in bidding", NONE, x.legal(0));
        for (int seed = 0; seed < 10; seed++) {
            Game g = Game.inPlay(seed, 2, 2, 0);
            while (g.now.phase() == 2) {
                DropSignals y = g.made();
                int p = y.about(2);
                int led = y.trick(0);
                boolean has = led != NONE && y.suitOf(p, led / 8, 0) > 0;
                int k = 0;
                for (int c = 0; c < 32; c++) {
                    if (y.cardOf(c, 0) == p && (!has || c / 8 == led / 8)) {
                        due("legal(" + k + ")", c, y.legal(k));
                        k++;
                    }
                }
                for (; k < 8; k++) {
                    due("legal(" + k + ")", NONE, y.legal(k));
                }
                g.playOn(Game.WAYS[0], 1);
            }
            due("legal(0) at the end", NONE, g.made().legal(0));
        }
    }

    static void advice() {
        says("promise 16");
        DropSignals x = new DropSignals();
        due("advice() without a deal", NONE, x.advice());
        x.deal(1);
        due("advice() in bidding", NONE, x.advice());
        int[] cases = new int[5];
        int beyondLowest = 0;
        for (int seed = 0; seed < 300; seed++) {
            Game g = Game.inPlay(seed, 1, seed % 5, 0);
            while (g.now.phase() == 2) {
                DropSignals y = g.made();
                int p = y.about(2);
                int led = y.trick(0);
                int s = led == NONE ? NONE : led / 8;
                boolean follows = led != NONE && y.suitOf(p, s, 0) > 0;
                int want = NONE;
                if (follows && y.suitOf(p, s, 2) == 0) {
                    boolean even = y.suitOf(p, s, 1) % 2 == 0;
                    int small = 0;
                    for (int c = s * 8; c < s * 8 + 4; c++) {
                        if (y.cardOf(c, 0) == p) {
                            small++;
                            want = small == 1 || even ? c : want;
                        }
                    }
                    want = small < 2 ? NONE : want;
                    cases[want == NONE ? 4 : even ? 0 : 1]++;
                } else if (follows && y.suitOf(p, s, 2) == 1) {
                    int first = NONE;
                    for (int c = s * 8; c < s * 8 + 4; c++) {
                        // The one drop is the small card that was played behind another one's lead.
                        int when = y.cardOf(c, 2);
                        if (when != NONE && y.cardOf(c, 1) == p && when % 4 > 0 && g.now.cards.get(when - when % 4) / 8 == s) {
                            first = c;
                        }
                    }
                    for (int c = s * 8 + 3; c >= s * 8; c--) {
                        if (y.cardOf(c, 0) == p && (c < first) == (y.suitOf(p, s, 1) % 2 == 0)) {
                            want = c;
                        }
                    }
                    cases[want == NONE ? 4 : 2]++;
                    beyondLowest += want != NONE && want != g.now.legal().get(0) ? 1 : 0;
                } else {
                    cases[3]++;
                }
                for (int k = 0; want == NONE && k < 32; k++) {
                    int c = k % 4 * 8 + k / 4;
                    if (y.cardOf(c, 0) == p && (!follows || c / 8 == s)) {
                        want = c;
                    }
                }
                due("advice()", want, y.advice());
                // Now and then a greater card than the advised one, so that not every first drop is the lowest.
                int lowest = g.now.legal().get(0);
                int other = g.now.legal().size() > 1 ? g.now.legal().get(1) : lowest;
                g.play(seed % 3 == 0 ? lowest : seed % 3 == 1 ? other : g.now.advice());
            }
            due("advice() at the end", NONE, g.made().advice());
        }
        for (int n : cases) {
            due("all cases came up", 1, n > 10 ? 1 : 0);
        }
        due("a second drop was not always the lowest card", 1, beyondLowest > 3 ? 1 : 0);
    }

    static void mayHave() {
        says("promise 17");
        DropSignals x = new DropSignals();
        refused("mayHave(-1, 1, 0)", INDEX, () -> x.mayHave(-1, 1, 0, true));
        refused("mayHave(4, 1, 0)", INDEX, () -> x.mayHave(4, 1, 0, true));
        refused("mayHave(0, -1, 0)", INDEX, () -> x.mayHave(0, -1, 0, true));
        refused("mayHave(0, 4, 0)", INDEX, () -> x.mayHave(0, 4, 0, true));
        refused("mayHave(0, 0, 4)", INDEX, () -> x.mayHave(0, 0, 4, true));
        refused("mayHave(0, 0, -1)", INDEX, () -> x.mayHave(0, 0, -1, true));
        refused("mayHave(2, 2, 3)", ARGUMENT, () -> x.mayHave(2, 2, 3, false));
        refused("mayHave(0, 1, 0) without a deal", STATE, () -> x.mayHave(0, 1, 0, false));
        x.deal(1);
        refused("mayHave(0, 1, 0) in bidding", STATE, () -> x.mayHave(0, 1, 0, false));
        refused("mayHave(1, 1, 0) in bidding", ARGUMENT, () -> x.mayHave(1, 1, 0, false));

        // Nothing is played: all numbers from 0 to the cards that the viewer does not have.
        DropSignals y = inPlay(31, 1, 0);
        for (int s = 0; s < 4; s++) {
            due("mayHave(0, 1, " + s + ")", (1 << 9 - y.suitOf(0, s, 0)) - 1, y.mayHave(0, 1, s, true));
        }
        int read = 0;
        int shown = 0;
        int needed = 0;
        for (int seed = 0; seed < 40; seed++) {
            Game g = Game.inPlay(seed, 1, 4, 0);
            for (int turn = 0; turn < 31; turn++) {
                DropSignals z = g.playOn(Game.WAYS[2], 1).made();
                int viewer = (seed + turn) % 4;
                int p = (viewer + 1 + turn / 4 % 3) % 4;
                int s = turn / 5 % 4;
                int plain = 0;
                int trusted = 0;
                int unseen = 0;
                int room = 0;
                int size = sizeOf(z, p);
                for (int q = 0; q < 4; q++) {
                    unseen += q == viewer ? 0 : z.suitOf(q, s, 0);
                    room += q == viewer || q == p || z.suitOf(q, s, 5) == 1 ? 0 : sizeOf(z, q);
                }
                for (int n = 0; n <= size; n++) {
                    boolean may = (z.suitOf(p, s, 5) == 0 || n == 0) && n <= unseen && unseen - n <= room;
                    int dealt = n + z.suitOf(p, s, 1) - z.suitOf(p, s, 0);
                    int signal = z.suitOf(p, s, 3);
                    plain += may ? 1 << n : 0;
                    trusted += may && (signal == 0 || signal == 2 == (dealt % 2 == 0)) ? 1 << n : 0;
                    needed += n <= unseen && unseen - n > room ? 1 : 0;
                }
                due("mayHave() without signals", plain, z.mayHave(viewer, p, s, false));
                due("mayHave() with signals", trusted, z.mayHave(viewer, p, s, true));
                read += plain != trusted ? 1 : 0;
                shown += z.suitOf(p, s, 5);
            }
            DropSignals over = g.playOn(Game.WAYS[2], 1).made();
            refused("mayHave() at the end", STATE, () -> over.mayHave(0, 1, 0, true));
        }
        due("all rules came up", 1, read > 5 && shown > 5 && needed > 5 ? 1 : 0);
    }

    static void most() {
        says("promise 18");
        DropSignals x = new DropSignals();
        refused("most(-1)", ARGUMENT, () -> x.most(-1));
        refused("most(2)", ARGUMENT, () -> x.most(2));
        refused("most(0) without a deal", STATE, () -> x.most(0));
        for (int seed = 0; seed < 16; seed++) {
            Game g = Game.inPlay(seed, 1, seed % 5, 0).playOn(Game.WAYS[2], 17);
            for (int turn = 17; turn < 20; turn++) {
                // The players whose turn is still to come have 4 cards.
                DropSignals y = g.made();
                refused("most(0) with too many cards", STATE, () -> y.most(0));
                refused("most(1) with too many cards", STATE, () -> y.most(1));
                refused("most(2) with too many cards", ARGUMENT, () -> y.most(2));
                g.playOn(Game.WAYS[0], 1);
            }
            for (int turn = 20; turn < 32; turn++) {
                DropSignals y = g.made();
                if (turn < 23 ? seed % 8 == turn - 20 : seed % 2 == 0) {
                    int side = y.about(2) % 2;
                    int want = g.now.bestFor(side) - y.about(5 + side);
                    due("most(0)", want, y.most(0));
                    due("most(1)", want, y.most(1));
                }
                g.play(y.legal(seed % 3 == 0 && y.legal(1) != NONE ? 1 : 0));
            }
            DropSignals over = g.made();
            refused("most(0) at the end", STATE, () -> over.most(0));
        }
    }

    static void bestCard() {
        says("promise 19");
        DropSignals x = new DropSignals();
        refused("bestCard() without a deal", STATE, x::bestCard);
        int others = 0;
        DropSignals alone = inPlay(100, 1, 1);
        advance(alone, 24);
        DropSignals searched = inPlay(100, 1, 1);
        advance(searched, 24);
        searched.most(0);
        due("bestCard() without most(0)", searched.bestCard(), alone.bestCard());
        for (int seed = 100; seed < 130; seed++) {
            Game g = Game.inPlay(seed, 1, seed % 5, 0);
            refused("bestCard() with too many cards", STATE, () -> g.made().bestCard());
            g.playOn(Game.WAYS[2], 19);
            refused("bestCard() with too many cards", STATE, () -> g.made().bestCard());
            g.playOn(Game.WAYS[0], 1);
            while (g.now.phase() == 2) {
                int lowest = g.now.legal().get(0);
                int want = lowest;
                if (g.now.hand(g.now.turn()).size() < 3) {
                    want = g.now.bestCard();
                    due("bestCard()", want, g.made().bestCard());
                    others += want != lowest ? 1 : 0;
                }
                g.play(want);
            }
            refused("bestCard() at the end", STATE, () -> g.made().bestCard());
        }
        due("the best card was not always the lowest", 1, others > 3 ? 1 : 0);
    }

    static void runScript() {
        says("promise 20");
        DropSignals x = new DropSignals();
        refused("runScript(0, 0)", ARGUMENT, () -> x.runScript(0, 0));
        refused("runScript(5, 0)", ARGUMENT, () -> x.runScript(5, 0));
        refused("runScript(1, -1)", ARGUMENT, () -> x.runScript(1, -1));
        refused("runScript(1, 10000)", ARGUMENT, () -> x.runScript(1, 10000));
        refused("runScript(4, 10^16)", ARGUMENT, () -> x.runScript(4, 10000000000000000L));
        refused("runScript(4, MAX)", ARGUMENT, () -> x.runScript(4, Long.MAX_VALUE));
        due("runScript(4, 9999..)", 0, x.runScript(4, 9999999999999999L));
        String before = all(x);
        // Scripts on an object without a deal; the index of the first command that fails.
        script(x, 0, "0000");
        script(x, NONE, "1000", "1099");
        script(x, 0, "1100");
        script(x, 0, "2100");
        script(x, 1, "1000", "2101");
        script(x, NONE, "1000", "2100", "2140", "2440");
        script(x, 1, "1000", "2000");
        script(x, 1, "1000", "2150");
        script(x, 1, "1000", "2500");
        script(x, 3, "1000", "2200", "3000", "2140");
        script(x, 0, "3000");
        script(x, 1, "1000", "3001");
        script(x, 1, "1000", "3010");
        script(x, 1, "1000", "3100");
        script(x, NONE, "1000", "3000", "3000", "3000");
        script(x, 0, "4000");
        script(x, 1, "1000", "5001");
        script(x, NONE, "5000", "1000", "5000");
        script(x, 0, "5010");
        script(x, 0, "5100");
        script(x, 0, "6000");
        script(x, NONE, "1000", "6000", "3000", "6001");
        script(x, 1, "1000", "6001");
        script(x, 1, "1000", "6004");
        script(x, 1, "1000", "6010");
        script(x, 1, "1000", "6100");
        script(x, NONE, "1000", "7000", "7100");
        script(x, 1, "1000", "7200");
        script(x, 1, "1000", "7010");
        script(x, 1, "1000", "7001");
        script(x, NONE, "1000", "8000", "8330");
        script(x, 1, "1000", "8001");
        script(x, 1, "1000", "8400");
        script(x, 1, "1000", "8040");
        script(x, 1, "1000", "8003");
        int owner = owners(0)[17];
        script(x, NONE, "1000", "9" + owner + "17");
        script(x, 1, "1000", "9" + (owner + 1) % 4 + "17");
        script(x, 1, "1000", "9032");
        script(x, 1, "1000", "9400");
        script(x, 0, "9000");
        due("runScript() changes nothing", 1, before.equals(all(x)) ? 1 : 0);
        refused("undo() behind runScript()", STATE, x::undo);

        DropSignals y = inPlay(40, 1, 1);
        before = all(y);
        int c = y.legal(0);
        script(y, NONE, String.format("40%02d", c), "6002", "5003", "5009");
        script(y, 0, String.format("41%02d", c));
        script(y, 0, String.format("40%02d", firstNotOf(y, 1)));
        script(y, 1, String.format("91%02d", c), String.format("40%02d", firstOf(y, 2)));
        script(y, 2, String.format("91%02d", c), String.format("40%02d", c), String.format("91%02d", c));
        script(y, 0, "4032");
        script(y, 0, "4099");
        script(y, 3, "5009", "5009", "5009", "5006");
        script(y, NONE, "5009", "5009", "5009", "5005");
        due("runScript() changes nothing", 1, before.equals(all(y)) ? 1 : 0);
        y.play(c);
        script(y, NONE, "6002");
        for (int seed = 0; seed < 20; seed++) {
            DropSignals z = inPlay(seed, 1, 2);
            advance(z, 29);
            int[] more = {z.about(5), z.about(6)};
            for (int side = 0; side < 2; side++) {
                script(z, NONE, "7" + side + "0" + more[side]);
                script(z, 0, "7" + side + "0" + (more[side] + 1));
            }
            for (int i = 0; i < 16; i++) {
                int signal = z.suitOf(i / 4, i % 4, 3);
                for (int w = 0; w < 3; w++) {
                    script(z, w == signal ? NONE : 0, "8" + i / 4 + i % 4 + w);
                }
            }
        }
    }

    static void script(DropSignals x, int want, String... groups) {
        String digits = String.join("", groups);
        due("runScript(" + groups.length + ", " + digits + ")", want, x.runScript(groups.length, Long.parseLong(digits)));
    }

    static void simulate() {
        says("promise 21");
        DropSignals x = new DropSignals();
        refused("simulate(0, 0)", ARGUMENT, () -> x.simulate(0, 0));
        refused("simulate(0, 201)", ARGUMENT, () -> x.simulate(0, 201));
        refused("simulate(0, -1)", ARGUMENT, () -> x.simulate(0, -1));
        due("simulate(5, 1) without a deal", 1, x.simulate(5, 1));
        for (int seed = -20; seed < 20; seed++) {
            Game g = seed % 3 == 0 ? new Game() : Game.inPlay(seed, 1, 3, 0);
            g.playOn(Game.WAYS[2], seed % 2 == 0 ? 30 : 9);
            int m = seed == 3 ? 200 : 60 + seed;
            long start = seed * 1234567891011L;
            DropSignals y = g.made();
            due("simulate(.., " + m + ")", g.now.simulate(start, m), y.simulate(start, m));
            same("simulate()", g.made(), y);
        }
    }

    static void save() {
        says("promise 22");
        DropSignals x = new DropSignals();
        refused("save(-1)", INDEX, () -> x.save(-1));
        refused("save(2)", INDEX, () -> x.save(2));
        due("save(0)", 0, x.save(0));
        x.deal(1);
        due("save(1)", 1, x.save(1));
        due("undo() behind save()", 0, x.undo());
        x.deal(2);
        x.deal(3);
        due("save(1) again", 2, x.save(1));
        x.deal(4);
        due("restore(0)", 0, x.restore(0));
        due("restore(1)", 2, x.restore(1));
        due("cardOf(0, 1)", owners(3)[0], x.cardOf(0, 1));
    }

    static void restore() {
        says("promise 23");
        DropSignals x = new DropSignals();
        refused("restore(-1)", INDEX, () -> x.restore(-1));
        refused("restore(2)", INDEX, () -> x.restore(2));
        refused("restore(0)", STATE, () -> x.restore(0));
        DropSignals y = inPlay(50, 2, 1);
        advance(y, 10);
        y.play(firstNotOf(y, y.about(2)));
        DropSignals twin = inPlay(50, 2, 1);
        advance(twin, 10);
        twin.play(firstNotOf(twin, twin.about(2)));
        y.save(1);
        advance(y, 30);
        y.deal(9);
        refused("restore(0) of an empty slot", STATE, () -> y.restore(0));
        due("undo() behind a restore() that threw", 13, y.undo());
        due("restore(1)", 1, y.restore(1));
        refused("undo() behind restore()", STATE, y::undo);
        y.play(y.advice());
        due("undo()", 0, y.undo());
        y.deal(3);
        due("restore(1) again", 1, y.restore(1));
        same("restore(1)", twin, y);
        advance(y, 30);
        due("play goes on to its end", 3, y.about(1));
        y.undo();
        y.save(0);
        y.undo();
        due("restore(0)", 1, y.restore(0));
        due("31 cards are played", 1, sizeOf(y, 0) + sizeOf(y, 1) + sizeOf(y, 2) + sizeOf(y, 3));
        write(y, "V").load();
        refused("restore(0) behind load()", STATE, () -> y.restore(0));
        refused("restore(1) behind load()", STATE, () -> y.restore(1));
    }

    public static void main(String[] args) {
        newObject();
        append();
        clearText();
        errorPosition();
        load();
        about();
        cardOf();
        suitOf();
        trick();
        deal();
        bid();
        pass();
        play();
        undo();
        legal();
        advice();
        mayHave();
        most();
        bestCard();
        runScript();
        simulate();
        save();
        restore();
        System.out.println(checks + " checks, " + wrong + " wrong");
        if (wrong != 0) {
            System.exit(1);
        }
    }
}

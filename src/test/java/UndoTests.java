import java.util.ArrayList;
import java.util.List;
import java.util.function.Supplier;

/** "Actions and undo", "exceptions" and the promise 14: a test for each sentence that names a boundary. */
public final class UndoTests extends Checks {
    /** How many states an object remembers; it is used up by this. */
    static int remembered(DropSignals x) {
        int n = 0;
        while (n < 20 && !told(x::undo).equals(STATE)) {
            n++;
        }
        return n;
    }

    static DropSignals deals(int times) {
        DropSignals x = new DropSignals();
        for (int i = 0; i < times; i++) {
            x.deal(i);
        }
        return x;
    }

    /** Evenings at many points, each with a text, remembered states and a slot in use. */
    static List<Supplier<DropSignals>> points() {
        Game play = Game.one(h -> h.trick().size() == 2 && h.signals > 0 && h.cards.size() < 20);
        Game late = Game.one(h -> h.cards.size() == 22 && h.signals > 1);
        Game over = Game.one(h -> h.phase() == 3 && h.signals > h.trues);
        List<Supplier<DropSignals>> points = new ArrayList<>();
        points.add(() -> write(new DropSignals(), "Vd0"));
        points.add(() -> {
            DropSignals x = write(over.made(), "V!");
            x.save(1);
            x.deal(4);
            x.pass();
            x.bid(1, 3);
            return x;
        });
        points.add(() -> {
            DropSignals x = write(play.made(), "Vd02b10ppp");
            x.save(0);
            x.play(firstNotOf(x, x.about(2)));
            return x;
        });
        points.add(() -> {
            DropSignals x = write(late.made(), "V".repeat(120));
            x.save(1);
            return x;
        });
        points.add(over::made);
        points.add(() -> write(allPassed(3), "Vp"));
        return points;
    }

    // ---- what an action is

    static void eachActionIsRemembered() {
        says("ACTIONS AND UNDO: Before each action, the state is remembered (deal, bid, pass, play)");
        due("remembered behind deal()", 1, remembered(dealt(1)));
        DropSignals x = dealt(1);
        x.bid(1, 1);
        due("remembered behind bid()", 2, remembered(x));
        DropSignals y = dealt(1);
        y.pass();
        due("remembered behind pass()", 2, remembered(y));
        DropSignals z = inPlay(1, 1, 1);
        z.play(z.legal(0));
        due("remembered behind play()", 6, remembered(z));
    }

    static void aRefusedCardIsAnAction() {
        says("ACTIONS AND UNDO: Each call that does not throw an exception is an action, also if nothing becomes different");
        DropSignals x = inPlay(1, 1, 1);
        due("play() of a strange card", 1, x.play(firstNotOf(x, 1)));
        due("remembered behind play() that answers 1", 6, remembered(x));
        Game g = Game.one(h -> h.cards.size() == 1 && TermsTests.followers(h) == 1);
        DropSignals y = g.made();
        int other = NONE;
        for (int c : g.now.hand(g.now.turn())) {
            other = c / 8 != g.now.trick().get(0) / 8 ? c : other;
        }
        int before = remembered(g.made());
        due("play() of a card that does not follow", 2, y.play(other));
        due("remembered behind play() that answers 2", before + 1, remembered(y));
    }

    static void thePassThatEndsIsAnAction() {
        says("ACTIONS AND UNDO: also the pass that begins play, or ends the deal, is taken back alone");
        DropSignals x = inPlay(1, 2, 2);
        due("undo()", 4, x.undo());
        due("about(1)", 1, x.about(1));
        due("about(2)", 3, x.about(2));
        due("about(4)", NONE, x.about(4));
        due("pass()", 2, x.pass());
        DropSignals y = allPassed(1);
        due("undo()", 4, y.undo());
        due("about(1)", 1, y.about(1));
        due("about(2)", 3, y.about(2));
        due("pass()", 3, y.pass());
    }

    static void aCallThatThrowsIsNoAction() {
        says("ACTIONS AND UNDO: that does not throw an exception: a call that throws is not remembered");
        DropSignals x = dealt(1);
        refused("play(0)", STATE, () -> x.play(0));
        refused("play(32)", INDEX, () -> x.play(32));
        refused("bid(5, 0)", ARGUMENT, () -> x.bid(5, 0));
        x.bid(4, 4);
        refused("bid(4, 4)", STATE, () -> x.bid(4, 4));
        passes(x, 3);
        refused("pass()", STATE, x::pass);
        due("remembered", 5, remembered(x));
    }

    static void undoIsNoAction() {
        says("ACTIONS AND UNDO: (undo is none)");
        DropSignals x = deals(5);
        due("undo()", 4, x.undo());
        due("undo()", 3, x.undo());
        due("about(0) behind two undo()", 3, x.about(0));
        x.deal(9);
        due("undo()", 3, x.undo());
        due("about(0)", 3, x.about(0));
    }

    static void loadAndRestoreAreNoActions() {
        says("ACTIONS AND UNDO: load and restore are not actions");
        DropSignals x = write(deals(3), "Vd00");
        x.load();
        due("remembered behind load()", 0, remembered(x));
        DropSignals y = deals(3);
        y.save(0);
        y.restore(0);
        due("remembered behind restore()", 0, remembered(y));
    }

    static void allOtherCallsAreNoActions() {
        says("ACTIONS AND UNDO: The methods in the section \"actions\" change the state: all others are not remembered");
        DropSignals x = inPlay(1, 1, 1);
        x.append('V');
        x.errorPosition();
        x.clearText();
        x.about(0);
        x.cardOf(0, 0);
        x.suitOf(0, 0, 0);
        x.trick(0);
        x.legal(0);
        x.advice();
        x.mayHave(0, 1, 0, true);
        x.runScript(1, 1000);
        x.simulate(1, 9);
        x.save(0);
        due("remembered", 5, remembered(x));
        DropSignals y = advance(inPlay(1, 1, 1), 24);
        y.play(y.legal(0));
        y.most(0);
        y.most(1);
        y.bestCard();
        due("undo()", 13, y.undo());
        due("cards played", 8 + 8 + 8, 32 - sizeOf(y, 0) - sizeOf(y, 1) - sizeOf(y, 2) - sizeOf(y, 3));
    }

    // ---- what the state is

    static void theTextIsNotInTheState() {
        says("ACTIONS AND UNDO: the state, which consists of everything but the text");
        DropSignals x = written("Vd");
        x.deal(1);
        x.append('0');
        x.save(0);
        x.append('0');
        x.undo();
        due("errorPosition() behind undo()", NONE, x.errorPosition());
        x.restore(0);
        due("errorPosition() behind restore()", NONE, x.errorPosition());
        due("clearText() behind both", 4, x.clearText());
        x.restore(0);
        due("clearText() behind restore()", 0, x.clearText());
    }

    static void theSlotsAreNotInTheState() {
        says("ACTIONS AND UNDO: and the save slots");
        DropSignals x = new DropSignals();
        x.deal(1);
        x.save(0);
        x.deal(2);
        x.save(1);
        x.deal(3);
        x.save(0);
        x.undo();
        x.undo();
        x.undo();
        due("restore(0) behind undo()", 3, x.restore(0));
        due("restore(1) behind undo()", 2, x.restore(1));
        due("restore(0) behind restore(1)", 3, x.restore(0));
    }

    static void undoTakesBackTheWholeState() {
        says("ACTIONS AND UNDO: the state, which consists of everything: undo takes back all of it");
        Game over = Game.one(h -> h.phase() == 3 && h.signals > h.trues && h.trues > 0);
        Game signal = Game.one(h -> TermsTests.dropped(h, 2));
        Game shown = Game.one(h -> !h.lastLed() && h.cards.size() > 5 && !h.lastFollowed());
        Game trick = Game.one(h -> h.cards.size() == 8);
        for (Game g : List.of(over, signal, shown, trick)) {
            DropSignals x = g.made();
            x.undo();
            alike("the state behind undo() of a card", all(g.back().made()), all(x));
        }
        DropSignals y = over.made();
        String before = all(y);
        y.deal(3);
        y.undo();
        alike("the state behind undo() of a deal", before, all(y));
        DropSignals z = inPlay(2, 1, 1);
        before = all(z);
        z.play(firstNotOf(z, 1));
        z.undo();
        alike("the state behind undo() of a refused card", before, all(z));
        DropSignals first = dealt(2);
        first.undo();
        alike("the state behind undo() of the first deal", all(new DropSignals()), all(first));
        DropSignals bid = dealt(2);
        before = all(bid);
        bid.bid(3, 3);
        bid.undo();
        alike("the state behind undo() of a bid", before, all(bid));
    }

    // ---- how many are remembered

    static void atMost14States() {
        says("ACTIONS AND UNDO: At most 14 states are remembered");
        for (int n = 0; n <= 30; n++) {
            due("remembered behind " + n + " actions", Math.min(n, 14), remembered(deals(n)));
        }
    }

    static void theOldestOneIsForgotten() {
        says("ACTIONS AND UNDO: when one more is remembered, the oldest one is forgotten");
        for (int n = 14; n <= 30; n++) {
            DropSignals x = deals(n);
            for (int i = 13; i >= 0; i--) {
                due("undo() behind " + n + " deals", i, x.undo());
                due("about(0) behind " + n + " deals and undo()", n - 14 + i, x.about(0));
            }
            refused("undo() behind 14 undo()", STATE, x::undo);
            due("about(0) behind them", n - 14, x.about(0));
        }
    }

    static void newStatesBehindUndo() {
        says("ACTIONS AND UNDO: states are remembered again behind undo()");
        for (int back = 1; back <= 14; back++) {
            DropSignals x = deals(17);
            for (int i = 0; i < back; i++) {
                x.undo();
            }
            for (int i = 0; i < 5; i++) {
                x.deal(50 + i);
            }
            int want = Math.min(14 - back + 5, 14);
            int deals = 17 - back + 5;
            for (int i = want - 1; i >= 0; i--) {
                due("undo() behind " + back + " back and 5 anew", i, x.undo());
                deals--;
                due("about(0)", deals, x.about(0));
            }
            refused("undo() with none remembered", STATE, x::undo);
        }
    }

    // ---- promise 14: undo

    static void undoAnswersHowManyAreStillRemembered() {
        says("promise 14: Returns how many states are still remembered");
        due("undo() behind one action", 0, dealt(1).undo());
        due("undo() behind 13 actions", 12, deals(13).undo());
        due("undo() behind 14 actions", 13, deals(14).undo());
        due("undo() behind 15 actions", 13, deals(15).undo());
    }

    static void undoWithNoneRemembered() {
        says("promise 14: IllegalStateException if none is remembered");
        refused("undo() of a new object", STATE, () -> new DropSignals().undo());
        DropSignals x = dealt(1);
        x.undo();
        refused("undo() behind the last one", STATE, x::undo);
        refused("undo() once more", STATE, x::undo);
        due("deal() behind it", 1, x.deal(1));
        due("undo() behind deal()", 0, x.undo());
        changesNothing("undo() with none remembered", () -> write(new DropSignals(), "Vp"), y -> told(y::undo));
    }

    // ---- EXCEPTIONS

    static void theOneNamedFirstIsThrown() {
        says("EXCEPTIONS: If several exceptions apply to a call, the one that its description names first is thrown");
        DropSignals x = written("V".repeat(120));
        refused("append(256) to a full text", ARGUMENT, () -> x.append(256));
        refused("cardOf(32, 3)", INDEX, () -> x.cardOf(32, 3));
        refused("cardOf(-1, -1)", INDEX, () -> x.cardOf(-1, -1));
        refused("suitOf(4, 0, 6)", INDEX, () -> x.suitOf(4, 0, 6));
        refused("suitOf(0, 4, 6)", INDEX, () -> x.suitOf(0, 4, 6));
        refused("suitOf(0, -1, -1)", INDEX, () -> x.suitOf(0, -1, -1));
        refused("bid(0, 0) without bidding", ARGUMENT, () -> x.bid(0, 0));
        refused("bid(1, 5) without bidding", ARGUMENT, () -> x.bid(1, 5));
        refused("play(32) without play", INDEX, () -> x.play(32));
        refused("play(-1) without play", INDEX, () -> x.play(-1));
        refused("mayHave(4, 4, 0) without play", INDEX, () -> x.mayHave(4, 4, 0, true));
        refused("mayHave(1, 1, 4) without play", INDEX, () -> x.mayHave(1, 1, 4, true));
        refused("mayHave(0, 4, 0) without play", INDEX, () -> x.mayHave(0, 4, 0, true));
        refused("mayHave(1, 1, 0) without play", ARGUMENT, () -> x.mayHave(1, 1, 0, true));
        refused("most(2) without play", ARGUMENT, () -> x.most(2));
        refused("most(-1) without play", ARGUMENT, () -> x.most(-1));
        refused("restore(2) with nothing saved", INDEX, () -> x.restore(2));
        refused("restore(-1) with nothing saved", INDEX, () -> x.restore(-1));
    }

    static final String[] CALLS = {
        "append(-1)", "append(256)", "append(300) or append to a full text", "undo with none remembered", "load",
        "about(-1)", "about(12)", "cardOf(-1, 0)", "cardOf(32, 0)", "cardOf(0, 3)", "suitOf(4, 0, 0)", "suitOf(0, 4, 0)", "suitOf(0, 0, 6)",
        "trick(4)", "bid(0, 1)", "bid(5, 1)", "bid(1, 5)", "bid(1, 0)", "pass", "play(32)", "play(-1)", "play(0)", "legal(8)",
        "mayHave(4, 0, 0)", "mayHave(1, 1, 0)", "mayHave(0, 1, 0)", "most(2)", "most(0)", "bestCard", "runScript(0, 0)",
        "runScript(1, 10000)", "runScript(1, -1)", "simulate(1, 0)", "simulate(1, 201)", "save(2)", "save(-1)", "restore(2)", "restore(0)", "restore(1)",
    };

    static int call(DropSignals x, int i) {
        switch (i) {
            case 0: return x.append(-1);
            case 1: return x.append(256);
            case 2: return x.append(300);
            case 3: return x.undo();
            case 4: return x.load();
            case 5: return x.about(-1);
            case 6: return x.about(12);
            case 7: return x.cardOf(-1, 0);
            case 8: return x.cardOf(32, 0);
            case 9: return x.cardOf(0, 3);
            case 10: return x.suitOf(4, 0, 0);
            case 11: return x.suitOf(0, 4, 0);
            case 12: return x.suitOf(0, 0, 6);
            case 13: return x.trick(4);
            case 14: return x.bid(0, 1);
            case 15: return x.bid(5, 1);
            case 16: return x.bid(1, 5);
            case 17: return x.bid(1, 0);
            case 18: return x.pass();
            case 19: return x.play(32);
            case 20: return x.play(-1);
            case 21: return x.play(0);
            case 22: return x.legal(8);
            case 23: return x.mayHave(4, 0, 0, true);
            case 24: return x.mayHave(1, 1, 0, true);
            case 25: return x.mayHave(0, 1, 0, true);
            case 26: return x.most(2);
            case 27: return x.most(0);
            case 28: return x.bestCard();
            case 29: return x.runScript(0, 0);
            case 30: return x.runScript(1, 10000);
            case 31: return x.runScript(1, -1);
            case 32: return x.simulate(1, 0);
            case 33: return x.simulate(1, 201);
            case 34: return x.save(2);
            case 35: return x.save(-1);
            case 36: return x.restore(2);
            case 37: return x.restore(0);
            default: return x.restore(1);
        }
    }

    static void aCallThatThrowsChangesNothing() {
        says("EXCEPTIONS: A call that throws an exception changes nothing");
        boolean[] threw = new boolean[CALLS.length];
        for (Supplier<DropSignals> point : points()) {
            for (int i = 0; i < CALLS.length; i++) {
                int call = i;
                DropSignals tried = point.get();
                if (told(() -> call(tried, call)).endsWith("Exception")) {
                    threw[i] = true;
                    changesNothing(CALLS[i], point, x -> told(() -> call(x, call)));
                }
            }
        }
        for (int i = 0; i < CALLS.length; i++) {
            must(CALLS[i] + " threw somewhere", threw[i]);
        }
    }

    static void whatWouldBeChangesNothing() {
        says("these and all following methods up to the save slots change nothing");
        for (Supplier<DropSignals> point : points()) {
            changesNothing("legal", point, x -> {
                for (int k = 0; k < 8; k++) {
                    x.legal(k);
                }
            });
            changesNothing("advice", point, DropSignals::advice);
            changesNothing("mayHave", point, x -> {
                for (int i = 0; i < 32; i++) {
                    int n = i;
                    told(() -> x.mayHave(n % 4, (n + 1) % 4, n / 4 % 4, n >= 16));
                }
            });
            changesNothing("most(0)", point, x -> told(() -> x.most(0)));
            changesNothing("most(1)", point, x -> told(() -> x.most(1)));
            changesNothing("bestCard", point, x -> told(x::bestCard));
            changesNothing("runScript, a deal", point, x -> x.runScript(4, 1007213030003000L));
            changesNothing("runScript, bids", point, x -> x.runScript(3, 244030003000L));
            changesNothing("runScript, advised cards", point, x -> x.runScript(4, 5001500250035004L));
            changesNothing("runScript, refused cards", point, x -> {
                for (int c = 0; c < 32; c++) {
                    x.runScript(1, 4000 + c);
                }
            });
            changesNothing("simulate, 1 turn", point, x -> x.simulate(5, 1));
            changesNothing("simulate, 200 turns", point, x -> x.simulate(-5, 200));
        }
    }

    static void lookingChangesNothing() {
        says("the calls under \"what there is\", and errorPosition(), change nothing");
        for (Supplier<DropSignals> point : points()) {
            changesNothing("looking", point, x -> {
                for (int i = 0; i < 12; i++) {
                    x.about(i);
                    x.cardOf(i, i % 3);
                    x.suitOf(i % 4, i / 4, i % 6);
                    x.trick(i % 4);
                }
                x.errorPosition();
            });
        }
    }

    public static void main(String[] args) {
        runAll(UndoTests.class);
    }
}

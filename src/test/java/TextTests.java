import java.util.Arrays;

/** "Text" and the promises 1 to 5: a test for each sentence that names a boundary. */
public final class TextTests extends Checks {
    // ---- promise 1: a new object

    static void aNewObjectHasNoDeal() {
        says("promise 1: Creates an evening without a deal");
        DropSignals x = new DropSignals();
        int[] want = {0, 0, NONE, 0, NONE, 0, 0, 0, 0, 0, 0, 0};
        for (int i = 0; i < 12; i++) {
            due("about(" + i + ")", want[i], x.about(i));
        }
        for (int k = 0; k < 4; k++) {
            due("trick(" + k + ")", NONE, x.trick(k));
        }
    }

    static void aNewObjectHasNoText() {
        says("promise 1: a new object has no text");
        due("clearText()", 0, new DropSignals().clearText());
        due("errorPosition()", 0, new DropSignals().errorPosition());
        due("append('V')", 1, new DropSignals().append('V'));
    }

    static void aNewObjectRemembersNothing() {
        says("promise 1: a new object remembers no state and has saved none");
        DropSignals x = new DropSignals();
        refused("undo()", STATE, x::undo);
        refused("restore(0)", STATE, () -> x.restore(0));
        refused("restore(1)", STATE, () -> x.restore(1));
    }

    static void newObjectsAreApart() {
        says("promise 1: a new object has nothing of one that was made before");
        DropSignals x = played(3);
        x.save(0);
        write(x, "Vp");
        alike("a second object", traces(DropSignals::new), traces(() -> {
            DropSignals y = new DropSignals();
            x.deal(1);
            return y;
        }));
    }

    static void theConstantNone() {
        says("The constants: NONE = -1");
        due("NONE", -1, DropSignals.NONE);
    }

    // ---- promise 2: append

    static void allCharacterCodesFrom0To255() {
        says("promise 2: character code, 0 to 255");
        for (int from = 0; from < 256; from += 64) {
            DropSignals x = new DropSignals();
            for (int c = from; c < from + 64; c++) {
                due("append(" + c + ")", c - from + 1, x.append(c));
            }
        }
    }

    static void codesOutOfRange() {
        says("promise 2: IllegalArgumentException if c is out of range");
        DropSignals x = written("Vp");
        for (int c : new int[] {-1, 256, Integer.MIN_VALUE, Integer.MAX_VALUE, 'V' + 256, 'V' - 256}) {
            refused("append(" + c + ")", ARGUMENT, () -> x.append(c));
        }
        due("length behind them", 3, x.append('p'));
    }

    static void the120thCharacter() {
        says("promise 2: IllegalStateException if the text already has 120 characters");
        DropSignals x = new DropSignals();
        for (int i = 1; i <= 119; i++) {
            x.append('p');
        }
        due("append() of the 120th", 120, x.append('p'));
        refused("append() of the 121st", STATE, () -> x.append('p'));
        refused("append() of the 121st again", STATE, () -> x.append('p'));
        due("length behind them", 120, x.clearText());
        due("append() behind clearText()", 1, x.append('p'));
    }

    static void aWrongCodeComesAheadOfAFullText() {
        says("promise 2 and EXCEPTIONS: the one that its description names first: out of range, then 120 characters");
        DropSignals x = written("p".repeat(120));
        refused("append(-1)", ARGUMENT, () -> x.append(-1));
        refused("append(256)", ARGUMENT, () -> x.append(256));
        refused("append(255)", STATE, () -> x.append(255));
    }

    // ---- promise 3: clearText

    static void clearTextAnswersThePreviousLength() {
        says("promise 3: Returns the previous length of the text");
        due("clearText() of a new object", 0, new DropSignals().clearText());
        due("clearText() of one character", 1, written("V").clearText());
        due("clearText() of 120", 120, written("V".repeat(120)).clearText());
        DropSignals x = written("Vp");
        x.clearText();
        due("clearText() again", 0, x.clearText());
    }

    static void clearTextEmptiesTheText() {
        says("promise 3: Empties the text buffer");
        DropSignals x = written("Vpp");
        x.clearText();
        due("errorPosition()", 0, x.errorPosition());
        refused("load()", STATE, x::load);
        due("append()", 1, x.append('V'));
        due("errorPosition() of V", NONE, x.errorPosition());
    }

    static void nothingOfTheTextBeforeIsLeft() {
        says("promise 3: Empties the text buffer: a shorter text behind it has nothing of the longer one");
        String whole = "Vd00b10pppaa";
        for (String text : new String[] {"V", "Vd00", "Vd00b10", "Vd00b10p", "Vd00b10ppp", "Vd00b10pppa"}) {
            DropSignals x = write(written(whole), text);
            due("errorPosition() of " + text + " behind " + whole, NONE, x.errorPosition());
            due("load() of it", 0, x.load());
            alike("the state behind it", all(loaded(text)), all(x));
        }
        for (String text : new String[] {"", "Vd", "Vd0", "Vd00b", "Vd00b1"}) {
            due("errorPosition() of " + text + " behind " + whole, text.length(), write(written(whole), text).errorPosition());
        }
    }

    static void clearTextKeepsTheState() {
        says("promise 3: Empties the text buffer, and nothing else");
        alike("all but the text", all(played(4)), all(cleared(played(4))));
        DropSignals x = cleared(played(4));
        due("undo()", 13, x.undo());
        DropSignals y = played(4);
        y.save(1);
        y.clearText();
        due("restore(1)", 1, y.restore(1));
    }

    static DropSignals cleared(DropSignals x) {
        write(x, "Vp").clearText();
        return x;
    }

    // ---- TEXT and promise 4: errorPosition

    /** Every character behind a beginning: those that make it an evening, those that are allowed but lack more, all others. */
    static void next(String beginning, String ending, String lacking) {
        for (int c = 0; c < 256; c++) {
            DropSignals x = written(beginning);
            x.append(c);
            int length = beginning.length();
            int want = ending.indexOf(c) >= 0 ? NONE : lacking.indexOf(c) >= 0 ? length + 1 : length;
            due("errorPosition() of " + beginning + " and the character " + c, want, x.errorPosition());
        }
    }

    static void theLetterVIsFirst() {
        says("TEXT: An evening as a text is the letter V");
        next("", "V", "");
        due("errorPosition() of vd00", 0, written("vd00").errorPosition());
        due("errorPosition() of d00", 0, written("d00").errorPosition());
        due("errorPosition() of W!", 0, written("W!").errorPosition());
    }

    static void anyNumberOfCommands() {
        says("TEXT: and then any number of commands");
        due("errorPosition() of V", NONE, written("V").errorPosition());
        due("errorPosition() of V and 119 commands", NONE, written("V" + "p".repeat(119)).errorPosition());
        due("errorPosition() of all commands", NONE, written("Vd00b10pc00ad99b44pc31a").errorPosition());
    }

    static void everyCommandHasItsLetter() {
        says("TEXT: any number of commands: d, b, p, c, a, and no other character begins one");
        for (String beginning : new String[] {"Vp", "Va", "Vd00", "Vb10", "Vc00", "Vc31"}) {
            next(beginning, "pa", "dbc");
        }
        next("V", "pa", "dbc");
    }

    static void dAndTwoDigits() {
        says("TEXT: d and two digits (00 to 99)");
        next("Vd", "", "0123456789");
        for (char first = '0'; first <= '9'; first++) {
            next("Vd" + first, "0123456789", "");
        }
    }

    static void bAndALevelAndASuit() {
        says("TEXT: b, a digit for a level (1 to 4), and one for a suit (0 to 4)");
        next("Vb", "", "1234");
        for (char first = '1'; first <= '4'; first++) {
            next("Vb" + first, "01234", "");
        }
    }

    static void cAndACard() {
        says("TEXT: c and two digits for a card (00 to 31): a digit is not allowed if no number that is allowed begins with it and those before it");
        next("Vc", "", "0123");
        for (char first = '0'; first <= '2'; first++) {
            next("Vc" + first, "0123456789", "");
        }
        next("Vc3", "01", "");
    }

    static void theCardsDigitsBehindOtherCommands() {
        says("TEXT: the digits before it are those of the same command");
        due("errorPosition() of Vd33c29", NONE, written("Vd33c29").errorPosition());
        due("errorPosition() of Vc31c29", NONE, written("Vc31c29").errorPosition());
        due("errorPosition() of Vc29c32", 6, written("Vc29c32").errorPosition());
    }

    static void thereAreNoBlanks() {
        says("TEXT: There are no blanks");
        due("errorPosition() of ' V'", 0, written(" V").errorPosition());
        due("errorPosition() of 'V p'", 1, written("V p").errorPosition());
        due("errorPosition() of 'Vp '", 2, written("Vp ").errorPosition());
        due("errorPosition() of 'Vd 0'", 2, written("Vd 0").errorPosition());
        due("errorPosition() of 'Vd0 '", 3, written("Vd0 ").errorPosition());
    }

    static void theFirstErrorIsTold() {
        says("TEXT: The error position is the index of the first character that these rules do not allow at its place");
        due("errorPosition() of VxxVx", 1, written("VxxVx").errorPosition());
        due("errorPosition() of Vpx, a later too soon end too", 2, written("Vpxd0").errorPosition());
        due("errorPosition() of Vd0xb9", 3, written("Vd0xb9").errorPosition());
        due("errorPosition() of an error in the 120th character", 119, written("V" + "p".repeat(118) + "V").errorPosition());
    }

    static void theTextEndsTooSoon() {
        says("TEXT: if the text ends too soon, it is the length of the text");
        String[] texts = {"", "Vd", "Vd0", "Vb", "Vb4", "Vc", "Vc3", "Vpd", "Vd00b", "Vd00b1", "V" + "p".repeat(118) + "d"};
        for (String text : texts) {
            due("errorPosition() of " + text, text.length(), written(text).errorPosition());
        }
        due("errorPosition() of 120 characters that lack one", 120, written("V" + "p".repeat(117) + "d9").errorPosition());
    }

    static void noneIfItIsAnEvening() {
        says("promise 4: NONE if it is an evening");
        due("errorPosition()", NONE, written("Vd07b13pppaaaa").errorPosition());
        due("errorPosition() of commands that cannot be done", NONE, written("Vpb10c00ab44b10").errorPosition());
    }

    // ---- promise 5: load

    /** An evening with scores, signals, refused cards, remembered states and both slots in use. */
    static DropSignals used() {
        DropSignals x = Game.some(1, h -> h.phase() == 3 && h.signals > h.trues && h.trues > 0).get(0).made();
        x.save(0);
        x.deal(5);
        x.bid(1, 1);
        passes(x, 3);
        x.play(firstNotOf(x, x.about(2)));
        x.save(1);
        return x;
    }

    static void everythingAsInANewObject() {
        says("promise 5: Makes everything as in a new object");
        alike("everything but the text behind load() of V", traces(() -> written("V")), traces(() -> {
            DropSignals x = write(used(), "V");
            due("load()", 0, x.load());
            return x;
        }));
    }

    static void thenTheCommandsOfTheText() {
        says("promise 5: and then does the commands of the text");
        alike("d00", all(dealt(0)), all(loaded("Vd00")));
        alike("d99", all(dealt(99)), all(loaded("Vd99")));
        alike("d10", all(dealt(10)), all(loaded("Vd10")));
        DropSignals two = dealt(7);
        two.deal(8);
        alike("two deals", all(two), all(loaded("Vd07d08")));
        alike("b10", all(bidding(1, 0)), all(loaded("Vd01b10")));
        alike("b44", all(bidding(4, 4)), all(loaded("Vd01b44")));
        alike("b31", all(bidding(3, 1)), all(loaded("Vd01b31")));
        alike("four passes", all(allPassed(3)), all(loaded("Vd03pppp")));
        alike("passes behind a bid", all(inPlay(3, 1, 2)), all(loaded("Vd03b12ppp")));
        alike("a", all(advance(inPlay(3, 1, 2), 1)), all(loaded("Vd03b12pppa")));
        alike("a whole deal", all(advance(inPlay(3, 1, 2), 32)), all(loaded("Vd03b12ppp" + "a".repeat(32))));
    }

    static DropSignals bidding(int level, int suit) {
        DropSignals x = dealt(1);
        x.bid(level, suit);
        return x;
    }

    static void cardsFrom00To31() {
        says("TEXT: c and two digits for a card (00 to 31): play()");
        for (int c = 0; c < 32; c++) {
            for (int declarer = 0; declarer < 4; declarer++) {
                DropSignals x = inPlay(8, 1, 2, declarer);
                if (x.cardOf(c, 0) == x.about(2)) {
                    String text = "Vd08" + "p".repeat(declarer) + String.format("b12pppc%02d", c);
                    x.play(c);
                    DropSignals y = written(text);
                    due("load() of " + text, 0, y.load());
                    alike(text, all(x), all(y));
                }
            }
        }
    }

    static void loadBeginsAnew() {
        says("promise 5: as in a new object: a second load() answers and does the same");
        DropSignals x = written("Vb10d03b12pppaa");
        due("load()", 1, x.load());
        due("about(0)", 1, x.about(0));
        due("load() again", 1, x.load());
        due("about(0)", 1, x.about(0));
        due("about(2)", loaded("Vd03b12pppaa").about(2), x.about(2));
    }

    static void readFromLeftToRight() {
        says("TEXT: The text is read from left to right");
        due("load() of Vd01b10b11", 0, written("Vd01b10b11").load());
        due("load() of Vd01b11b10", 1, written("Vd01b11b10").load());
        due("load() of Vb10d01", 1, written("Vb10d01").load());
        DropSignals x = dealt(2);
        x.deal(1);
        x.pass();
        x.bid(1, 3);
        alike("d02d01pb13", all(x), all(loaded("Vd02d01pb13")));
        alike("d01b10ppp behind d01pppb10", all(inPlay(1, 1, 0)), all(loaded("Vd01b10ppp")));
        alike("d01pppb10", all(lastBids(1)), all(loaded("Vd01pppb10")));
    }

    static DropSignals lastBids(long seed) {
        DropSignals x = dealt(seed);
        passes(x, 3);
        x.bid(1, 0);
        return x;
    }

    static void leftOut(String text, int want) {
        due("load() of " + text, want, written(text).load());
    }

    static void whatIsLeftOutInBidding() {
        says("TEXT: Commands that would throw an exception .. are left out (bids and passes)");
        leftOut("Vb10", 1);
        leftOut("Vp", 1);
        leftOut("Vd00b10b10", 1);
        leftOut("Vd00b20b14", 1);
        leftOut("Vd00b44b44", 1);
        leftOut("Vd00pppp", 0);
        leftOut("Vd00ppppp", 1);
        leftOut("Vd00ppppb10", 1);
        leftOut("Vd00b10pppp", 1);
        leftOut("Vd00b10pppb11", 1);
        leftOut("Vb10ppb44", 4);
        alike("the state without what is left out", all(loaded("Vd00b20")), all(loaded("Vd00b20b14b20")));
    }

    static void whatIsLeftOutInPlay() {
        says("TEXT: Commands that would throw an exception, and cards that cannot be played, are left out (cards)");
        leftOut("Vc00", 1);
        leftOut("Vd00c00", 1);
        leftOut("Vd00ppppc00", 1);
        DropSignals x = inPlay(8, 1, 2);
        int strange = firstNotOf(x, 1);
        leftOut(String.format("Vd08b12pppc%02d", strange), 1);
        leftOut(String.format("Vd08b12pppc%02dc%02d", strange, strange), 2);
        leftOut(String.format("Vd08b12pppc%02dc%02d", firstOf(x, 1), firstOf(x, 1)), 1);
        Game g = Game.one(h -> h.trick().size() == 1 && TermsTests.followers(h) == 1 && h.cards.size() == 1);
        int other = NONE;
        for (int c : g.now.hand(g.now.turn())) {
            other = c / 8 != g.now.trick().get(0) / 8 ? c : other;
        }
        due("reason against it", 2, g.made().play(other));
        for (int i = 0; i < 2; i++) {
            DropSignals y = whole(g.now, i == 0 ? String.format("c%02d", other) : "");
            due("load() of a card that does not follow", 1 - i, y.load());
            alike("the state without it", all(g.made()), all(y));
        }
        leftOut("Vd08b12ppp" + "a".repeat(32) + "c00", 1);
    }

    /** The text of a first deal in play, and something behind it. The deal has to have a seed below 100. */
    static DropSignals whole(History h, String behind) {
        StringBuilder text = new StringBuilder();
        for (int seed = 0; seed < 100; seed++) {
            if (Arrays.equals(owners(seed), h.owner)) {
                text.setLength(0);
                text.append(String.format("Vd%02d", seed));
            }
        }
        for (int call : h.calls) {
            text.append(call == 0 ? "p" : "b" + call);
        }
        for (int c : h.cards) {
            text.append(String.format("c%02d", c));
        }
        return written(text + behind);
    }

    static void theseCountAsRefusedNowhere() {
        says("TEXT: (these count as refused nowhere)");
        DropSignals x = inPlay(8, 1, 2);
        String text = String.format("Vc01d08c02b12pppc%02dc%02dc%02d", firstNotOf(x, 1), firstOf(x, 1), firstOf(x, 1));
        due("load() of " + text, 4, written(text).load());
        due("about(11) behind it", 0, loaded(text).about(11));
        DropSignals y = inPlay(8, 1, 2);
        y.play(firstNotOf(y, 1));
        write(y, text).load();
        due("about(11) behind a refused card and it", 0, y.about(11));
    }

    static void anAThatPlaysNothing() {
        says("promise 5: (an a that plays nothing is none of these); TEXT: nothing if it tells none");
        leftOut("Va", 0);
        leftOut("Vaaa", 0);
        leftOut("Vd00a", 0);
        leftOut("Vd00ppppa", 0);
        leftOut("Vd00b10ppp" + "a".repeat(33), 0);
        leftOut("Vpab10a", 2);
        alike("a without a deal", all(new DropSignals()), all(loaded("Va")));
        alike("a in bidding", all(dealt(0)), all(loaded("Vd00a")));
        alike("a behind the last card", all(loaded("Vd00b10ppp" + "a".repeat(32))), all(loaded("Vd00b10ppp" + "a".repeat(33))));
    }

    static void behindLoadNoStateIsRemembered() {
        says("promise 5: Behind it no state is remembered");
        for (String text : new String[] {"V", "Vd00", "Vd00b10pppaaa"}) {
            DropSignals x = write(used(), text);
            x.load();
            refused("undo() behind load() of " + text, STATE, x::undo);
            x.deal(1);
            due("undo() behind one action", 0, x.undo());
            refused("undo() once more", STATE, x::undo);
        }
    }

    static void behindLoadBothSlotsAreEmpty() {
        says("promise 5: and both save slots are empty");
        DropSignals x = write(used(), "Vd00");
        x.load();
        refused("restore(0)", STATE, () -> x.restore(0));
        refused("restore(1)", STATE, () -> x.restore(1));
        x.save(1);
        refused("restore(0) behind save(1)", STATE, () -> x.restore(0));
        due("restore(1) behind save(1)", 1, x.restore(1));
    }

    static void loadKeepsTheText() {
        says("promise 5: Keeps the text, also if it throws the exception");
        DropSignals x = written("Vd00b10");
        x.load();
        due("errorPosition() behind load()", NONE, x.errorPosition());
        due("append() behind load()", 8, x.append('p'));
        due("clearText() behind load()", 8, x.clearText());
        DropSignals y = written("Vd0");
        refused("load() of Vd0", STATE, y::load);
        due("errorPosition() behind a load() that threw", 3, y.errorPosition());
        due("append() behind a load() that threw", 4, y.append('0'));
        due("load() of the text that is whole now", 0, y.load());
        due("about(0)", 1, y.about(0));
        due("clearText() behind it", 4, y.clearText());
    }

    static void loadOfATextThatIsNoEvening() {
        says("promise 5: IllegalStateException if the text is not an evening");
        for (String text : new String[] {"", "d00", "v", "Vd", "Vd0", "Vx", "Vc32", "Vb15", "Vp ", "Vd00V"}) {
            refused("load() of " + text, STATE, () -> written(text).load());
        }
        DropSignals full = written("V" + "p".repeat(118) + "d");
        refused("load() of 120 characters that lack two", STATE, full::load);
    }

    static void aLoadThatThrowsChangesNothing() {
        says("EXCEPTIONS: A call that throws an exception changes nothing (load)");
        for (String text : new String[] {"", "Vd00b10ppp!", "Vd0"}) {
            changesNothing("load() of " + text, () -> write(used(), text), x -> told(x::load));
        }
    }

    static void aTextOf120Characters() {
        says("TEXT: a text buffer of at most 120 characters: all of them are loaded");
        String text = "Vd03b12ppp" + "a".repeat(32) + "d04b12ppp" + "a".repeat(32) + "d05b13ppp" + "a".repeat(28);
        due("length", 120, text.length());
        DropSignals x = written(text);
        due("load()", 0, x.load());
        due("about(0)", 3, x.about(0));
        due("about(1)", 2, x.about(1));
        due("tricks", 7, x.about(5) + x.about(6));
        due("load() with the last command left out", 1, written("Vd00" + "b44" + "ppp" + "a".repeat(32) + "p" + "a".repeat(77)).load());
        due("load() with 119 left out", 119, written("V" + "p".repeat(119)).load());
    }

    public static void main(String[] args) {
        runAll(TextTests.class);
    }
}

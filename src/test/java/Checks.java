import java.lang.reflect.InvocationTargetException;
import java.lang.reflect.Method;
import java.lang.reflect.Modifier;
import java.util.Arrays;
import java.util.Comparator;
import java.util.function.Consumer;
import java.util.function.Supplier;

/** What the tests share: checks that are counted, evenings that stand at some point, traces of all that can be seen. */
abstract class Checks {
    static final int NONE = DropSignals.NONE;
    static final String ARGUMENT = "IllegalArgumentException";
    static final String INDEX = "IndexOutOfBoundsException";
    static final String STATE = "IllegalStateException";

    static int wrong = 0;
    static int checks = 0;
    /** What is being tested: a promise, or a sentence of the document. */
    static String tested = "";

    interface Call {
        int answer();
    }

    static void says(String sentence) {
        tested = sentence;
    }

    static void due(String call, int want, int got) {
        checks++;
        if (want != got) {
            wrong++;
            System.out.println(tested + ": " + call + " answered " + got + ", due is " + want);
        }
    }

    static void must(String what, boolean holds) {
        checks++;
        if (!holds) {
            wrong++;
            System.out.println(tested + ": not so: " + what);
        }
    }

    static void alike(String what, String want, String got) {
        checks++;
        if (!want.equals(got)) {
            wrong++;
            System.out.println(tested + ": " + what + " differs:\n  " + got + "\n  due is\n  " + want);
        }
    }

    /** The exception has to be of this very class, so that one of the machine's own is found out. */
    static void refused(String call, String want, Call c) {
        checks++;
        String got = told(c);
        if (!want.equals(got)) {
            wrong++;
            System.out.println(tested + ": " + call + " answered " + got + ", due is " + want);
        }
    }

    /** The answer, or the name of the exception. */
    static String told(Call c) {
        try {
            return String.valueOf(c.answer());
        } catch (RuntimeException e) {
            return e.getClass().getSimpleName();
        }
    }

    /** Runs every method of a class of tests that is static, takes nothing and answers nothing. */
    static void runAll(Class<?> tests) {
        Method[] methods = tests.getDeclaredMethods();
        Arrays.sort(methods, Comparator.comparing(Method::getName));
        int ran = 0;
        for (Method m : methods) {
            boolean isTest = Modifier.isStatic(m.getModifiers()) && m.getParameterCount() == 0
                && m.getReturnType() == void.class && !m.isSynthetic();
            if (isTest) {
                runOne(m);
                ran++;
            }
        }
        System.out.println(ran + " sentences, " + checks + " checks, " + wrong + " wrong");
        if (wrong != 0 || ran == 0) {
            System.exit(1);
        }
    }

    private static void runOne(Method m) {
        tested = m.getName();
        int before = checks;
        try {
            m.invoke(null);
        } catch (InvocationTargetException e) {
            wrong++;
            System.out.println(tested + ": " + m.getName() + " ended with " + e.getCause());
        } catch (IllegalAccessException e) {
            throw new IllegalStateException(e);
        }
        if (checks == before) {
            wrong++;
            System.out.println(m.getName() + " checks nothing");
        }
    }

    // ---- evenings that stand at some point

    static DropSignals write(DropSignals x, String text) {
        x.clearText();
        for (int i = 0; i < text.length(); i++) {
            x.append(text.charAt(i));
        }
        return x;
    }

    static DropSignals written(String text) {
        return write(new DropSignals(), text);
    }

    static DropSignals loaded(String text) {
        DropSignals x = written(text);
        x.load();
        return x;
    }

    static DropSignals dealt(long seed) {
        DropSignals x = new DropSignals();
        x.deal(seed);
        return x;
    }

    static void passes(DropSignals x, int times) {
        for (int i = 0; i < times; i++) {
            x.pass();
        }
    }

    static DropSignals inPlay(long seed, int level, int suit) {
        return inPlay(seed, level, suit, 0);
    }

    static DropSignals inPlay(long seed, int level, int suit, int declarer) {
        DropSignals x = dealt(seed);
        passes(x, declarer);
        x.bid(level, suit);
        passes(x, 3);
        return x;
    }

    static DropSignals allPassed(long seed) {
        DropSignals x = dealt(seed);
        passes(x, 4);
        return x;
    }

    /** Plays the advised cards, so many or to the end. */
    static DropSignals advance(DropSignals x, int cards) {
        for (int i = 0; i < cards && x.about(1) == 2; i++) {
            x.play(x.advice());
        }
        return x;
    }

    static DropSignals played(long seed) {
        return advance(inPlay(seed, 1, 1), 32);
    }

    /** The player of each card, dealt as the document says. */
    static int[] owners(long seed) {
        History h = new History();
        h.deal(seed);
        return h.owner;
    }

    static int firstOf(DropSignals x, int p) {
        int c = 0;
        while (c < 31 && x.cardOf(c, 0) != p) {
            c++;
        }
        return c;
    }

    static int firstNotOf(DropSignals x, int p) {
        int c = 0;
        while (c < 31 && x.cardOf(c, 0) == p) {
            c++;
        }
        return c;
    }

    static int sizeOf(DropSignals x, int p) {
        return x.suitOf(p, 0, 0) + x.suitOf(p, 1, 0) + x.suitOf(p, 2, 0) + x.suitOf(p, 3, 0);
    }

    // ---- traces: an object may be used for 512 calls, so a trace takes some objects made alike

    /** All that can be looked at in the present deal and evening; 217 calls. */
    static String all(DropSignals x) {
        StringBuilder b = new StringBuilder();
        for (int i = 0; i < 12; i++) {
            b.append(x.about(i)).append(' ');
        }
        for (int i = 0; i < 96; i++) {
            b.append(x.cardOf(i / 3, i % 3)).append(' ');
        }
        for (int i = 0; i < 96; i++) {
            b.append(x.suitOf(i / 24, i / 6 % 4, i % 6)).append(' ');
        }
        for (int i = 0; i < 4; i++) {
            b.append(x.trick(i)).append(' ');
        }
        for (int i = 0; i < 8; i++) {
            b.append(x.legal(i)).append(' ');
        }
        return b.append(x.advice()).toString();
    }

    /** The numbers of the evening, as one text. */
    static String numbers(DropSignals x) {
        StringBuilder b = new StringBuilder();
        for (int i = 0; i < 12; i++) {
            b.append(x.about(i)).append(' ');
        }
        return b.toString();
    }

    /** The state, and behind it the remembered states, the save slots, the text and what it loads. */
    static String traces(Supplier<DropSignals> made) {
        StringBuilder b = new StringBuilder("state " + all(made.get()));
        DropSignals undone = made.get();
        for (int i = 0; i < 15; i++) {
            b.append("\n  undo ").append(told(undone::undo)).append(": ").append(numbers(undone));
        }
        for (int slot = 0; slot < 2; slot++) {
            DropSignals restored = made.get();
            int s = slot;
            b.append("\n  restore ").append(told(() -> restored.restore(s))).append(": ").append(all(restored));
        }
        DropSignals text = made.get();
        b.append("\n  text ").append(text.errorPosition()).append(' ').append(told(text::load)).append(": ").append(all(text));
        return b.append(text.clearText()).toString();
    }

    /** A call that answers or throws, and leaves everything as it was. */
    static void changesNothing(String call, Supplier<DropSignals> made, Consumer<DropSignals> calls) {
        String want = traces(made);
        String got = traces(() -> {
            DropSignals x = made.get();
            calls.accept(x);
            return x;
        });
        alike("everything behind " + call, want, got);
    }
}

import java.util.List;
import java.util.Random;

/** Compares the program with the model in random runs, each of at most 512 calls of an object. */
public final class ModelTests {
    static final int IAE = History.IAE;
    static final int IOOBE = History.IOOBE;
    static final int ISE = History.ISE;

    interface Call {
        int answer();
    }

    static int codeOf(Call call) {
        try {
            return call.answer();
        } catch (RuntimeException e) {
            if (e.getClass() == IllegalArgumentException.class) {
                return IAE;
            }
            if (e.getClass() == IllegalStateException.class) {
                return ISE;
            }
            if (e.getClass() == IndexOutOfBoundsException.class) {
                return IOOBE;
            }
            throw e;
        }
    }

    static int wrong = 0;
    static int scored = 0;
    static int searched = 0;

    static final class Run {
        final int number;
        final Random random;
        final Model model = new Model();
        final DropSignals program = new DropSignals();
        int calls = 0;

        Run(int number) {
            this.number = number;
            random = new Random(number * 77L + 5);
        }

        void compare(String call, Call due, Call got) {
            calls++;
            int want = due.answer();
            int have = codeOf(got);
            if (want != have) {
                wrong++;
                if (wrong < 30) {
                    System.out.println("run " + number + ", call " + calls + ": " + call + " answered " + have + ", due is " + want);
                }
            }
        }

        int number(int below) {
            return random.nextInt(below);
        }

        /** Mostly from 0 to below, sometimes just beside or far out. */
        int near(int below) {
            if (number(25) > 0) {
                return number(below);
            }
            int[] odd = {-1, below, below + 1, Integer.MIN_VALUE, Integer.MAX_VALUE, -2};
            return odd[number(odd.length)];
        }

        void go(int length) {
            while (calls < length) {
                int before = wrong;
                int kind = number(100);
                if (kind < 50) {
                    forward();
                } else if (kind < 75) {
                    look();
                } else if (kind < 90) {
                    think();
                } else {
                    rest();
                }
                if (wrong > before) {
                    return;
                }
            }
        }

        void forward() {
            int phase = model.now.phase();
            int kind = number(40);
            if (kind == 0 || phase % 3 == 0 && kind < 30) {
                long seed = number(3) == 0 ? random.nextLong() : number(100);
                deal(seed);
            } else if (kind == 1) {
                bid();
            } else if (kind == 2) {
                pass();
            } else if (kind == 3) {
                play(near(32));
            } else if (kind == 4) {
                compare("undo()", model::undo, program::undo);
            } else if (phase == 1) {
                if (number(3) == 0) {
                    bid();
                } else {
                    pass();
                }
            } else if (phase == 2) {
                List<Integer> legal = model.now.legal();
                List<Integer> hand = model.now.hand(model.now.turn());
                int wish = number(10);
                if (wish < 3) {
                    compare("advice()", model.now::advice, program::advice);
                }
                play(wish < 5 ? model.now.advice() : wish < 9 ? legal.get(number(legal.size())) : hand.get(number(hand.size())));
            }
        }

        void deal(long seed) {
            History before = model.now.twin();
            compare("deal(" + seed + ")", () -> {
                model.now.deal(seed);
                return model.acted(before, model.now.deals);
            }, () -> program.deal(seed));
        }

        void bid() {
            int level = number(4) > 0 ? 1 + number(2) : near(6);
            int suit = near(5);
            History before = model.now.twin();
            compare("bid(" + level + ", " + suit + ")", () -> model.acted(before, model.now.bid(level, suit)), () -> program.bid(level, suit));
        }

        void pass() {
            History before = model.now.twin();
            compare("pass()", () -> model.acted(before, model.now.pass()), program::pass);
        }

        void play(int c) {
            History before = model.now.twin();
            compare("play(" + c + ")", () -> model.acted(before, model.now.play(c)), () -> program.play(c));
            if (model.now.score0 + model.now.score1 != before.score0 + before.score1) {
                scored++;
            }
        }

        void look() {
            int what = near(12);
            int c = near(32);
            int some = near(3);
            int p = near(4);
            int s = near(4);
            int one = near(6);
            switch (number(6)) {
                case 0:
                case 1:
                    compare("about(" + what + ")", () -> model.now.about(what), () -> program.about(what));
                    break;
                case 2:
                    compare("cardOf(" + c + ", " + some + ")", () -> model.now.cardOf(c, some), () -> program.cardOf(c, some));
                    break;
                case 3:
                case 4:
                    compare("suitOf(" + p + ", " + s + ", " + one + ")", () -> model.now.suitOf(p, s, one), () -> program.suitOf(p, s, one));
                    break;
                default:
                    compare("trick(" + s + ")", () -> model.now.trick(s), () -> program.trick(s));
            }
        }

        void think() {
            int k = near(8);
            int viewer = near(4);
            int p = near(4);
            int s = near(4);
            boolean reads = number(3) > 0;
            int way = near(2);
            switch (number(9)) {
                case 0:
                    compare("legal(" + k + ")", () -> model.now.legal(k), () -> program.legal(k));
                    break;
                case 1:
                    compare("advice()", model.now::advice, program::advice);
                    break;
                case 2:
                case 3:
                case 4:
                    compare("mayHave(" + viewer + ", " + p + ", " + s + ", " + reads + ")",
                        () -> model.now.mayHave(viewer, p, s, reads), () -> program.mayHave(viewer, p, s, reads));
                    break;
                case 5:
                    // The model is slow, so it searches the dearest hands but seldom.
                    if (model.now.cards.size() > 22 || number(30) == 0) {
                        searched++;
                        compare("most(" + way + ")", () -> model.now.most(way), () -> program.most(way));
                        compare("most(" + (1 - way) + ")", () -> model.now.most(1 - way), () -> program.most(1 - way));
                    }
                    break;
                case 6:
                    if (model.now.cards.size() > 22 || number(30) == 0) {
                        compare("bestCard()", model.now::bestCard, program::bestCard);
                    }
                    break;
                case 7:
                    script();
                    break;
                default:
                    long seed = random.nextLong();
                    int m = number(8) == 0 ? near(202) : 1 + number(60);
                    if (number(4) == 0) {
                        compare("simulate(" + seed + ", " + m + ")", () -> model.now.simulate(seed, m), () -> program.simulate(seed, m));
                    }
            }
        }

        String group() {
            int turn = Math.max(0, model.now.turn());
            List<Integer> legal = model.now.legal();
            int c = legal.isEmpty() || number(4) == 0 ? number(34) : legal.get(number(legal.size()));
            switch (number(12)) {
                case 0: return String.format("10%02d", number(100));
                case 1: return String.format("2%d%d0", number(6), number(6));
                case 2: return "3000";
                case 3: return String.format("40%02d", c);
                case 4: return String.format("500%d", number(10));
                case 5: return String.format("600%d", number(3) == 0 ? number(6) : turn);
                case 6: return String.format("7%d0%d", number(3), number(4));
                case 7: return String.format("8%d%d%d", number(5), number(5), number(4));
                case 8: return String.format("9%d%02d", number(3) == 0 ? number(5) : turn, c);
                case 9: return String.format("%d%d%d%d", number(10), number(3), number(3), number(3));
                case 10: return "500" + number(4);
                default: return "3000";
            }
        }

        void script() {
            int n = near(4) + (number(20) == 0 ? 0 : 1);
            StringBuilder digits = new StringBuilder();
            for (int i = 0; i < Math.max(1, Math.min(4, n)); i++) {
                digits.append(group());
            }
            if (number(30) == 0 && digits.length() < 17) {
                digits.append("7");
            }
            long script = Long.parseLong(digits.toString()) * (number(40) == 0 ? -1 : 1);
            compare("runScript(" + n + ", " + script + ")", () -> model.now.runScript(n, script), () -> program.runScript(n, script));
        }

        void rest() {
            int slot = near(2);
            switch (number(12)) {
                case 0:
                case 1:
                case 2:
                    compare("save(" + slot + ")", () -> model.save(slot), () -> program.save(slot));
                    break;
                case 3:
                    compare("restore(" + slot + ")", () -> model.restore(slot), () -> program.restore(slot));
                    break;
                case 4:
                case 5:
                    int times = 1 + number(5);
                    for (int i = 0; i < times; i++) {
                        compare("undo()", model::undo, program::undo);
                    }
                    break;
                case 6:
                    // A text takes up to 130 calls, and an object is used for 512.
                    if (number(3) == 0 && calls < 370) {
                        text();
                    }
                    break;
                case 7:
                    compare("errorPosition()", model::errorPosition, program::errorPosition);
                    break;
                case 8:
                    if (number(10) == 0) {
                        compare("load()", model::load, program::load);
                    }
                    break;
                case 9:
                    int c = near(256);
                    compare("append(" + c + ")", () -> model.append(c), () -> program.append(c));
                    break;
                default:
                    if (number(10) == 0) {
                        compare("clearText()", model::clearText, program::clearText);
                    }
            }
        }

        void text() {
            compare("clearText()", model::clearText, program::clearText);
            StringBuilder text = new StringBuilder("Vd" + number(10) + number(10));
            for (int i = number(4); i > 0; i--) {
                text.append(number(2) == 0 ? "p" : "b" + (1 + number(4)) + number(5));
            }
            text.append("b" + (1 + number(2)) + number(5)).append("ppp");
            for (int i = number(34); i > 0; i--) {
                text.append(number(5) > 0 ? "a" : String.format("c%02d", number(32)));
            }
            if (number(6) == 0) {
                text.append(String.format("d%02db1%dppp", number(100), number(5)));
            }
            if (number(6) == 0) {
                text.setCharAt(number(text.length()), "Vdbpca0123456789 ".charAt(number(17)));
            }
            if (number(8) == 0) {
                text.setLength(number(text.length()));
            }
            for (int i = 0; i < text.length(); i++) {
                int c = text.charAt(i);
                compare("append(" + c + ")", () -> model.append(c), () -> program.append(c));
            }
            compare("errorPosition()", model::errorPosition, program::errorPosition);
            compare("load()", model::load, program::load);
        }
    }

    public static void main(String[] args) {
        int runs = args.length > 0 ? Integer.parseInt(args[0]) : 300;
        for (int i = 0; i < runs && wrong < 30; i++) {
            new Run(i).go(500);
        }
        System.out.println(runs + " runs, " + scored + " deals scored, " + searched + " searches, " + wrong + " wrong");
        if (wrong != 0) {
            System.exit(1);
        }
    }
}

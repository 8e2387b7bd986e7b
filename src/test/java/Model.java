import java.util.ArrayList;
import java.util.List;
import java.util.regex.Pattern;

/** The evening with its text, its remembered states and its save slots. */
final class Model {
    static final int NONE = History.NONE;
    static final int IAE = History.IAE;
    static final int IOOBE = History.IOOBE;
    static final int ISE = History.ISE;
    static final Pattern EVENING = Pattern.compile("V(d[0-9][0-9]|b[1-4][0-4]|p|c[0-2][0-9]|c3[01]|a)*");
    History now = new History();
    List<History> remembered = new ArrayList<>();
    History[] slots = new History[2];
    StringBuilder text = new StringBuilder();

    void remember(History before) {
        remembered.add(before);
        if (remembered.size() > 14) {
            remembered.remove(0);
        }
    }

    int acted(History before, int answer) {
        if (answer > -1000) {
            remember(before);
        }
        return answer;
    }

    int append(int c) {
        if (c < 0 || c > 255) {
            return IAE;
        }
        if (text.length() == 120) {
            return ISE;
        }
        text.append((char) c);
        return text.length();
    }

    int clearText() {
        int n = text.length();
        text.setLength(0);
        return n;
    }

    /** Whether some text that begins with this one is an evening. */
    static boolean isBeginning(String s) {
        for (String end : new String[] {"", "0", "00", "10", "1", "V"}) {
            if (EVENING.matcher(s + end).matches()) {
                return true;
            }
        }
        return false;
    }

    int errorPosition() {
        if (EVENING.matcher(text).matches()) {
            return NONE;
        }
        for (int i = 1; i <= text.length(); i++) {
            if (!isBeginning(text.substring(0, i))) {
                return i - 1;
            }
        }
        return text.length();
    }

    int load() {
        if (errorPosition() != NONE) {
            return ISE;
        }
        now = new History();
        remembered.clear();
        slots = new History[2];
        int left = 0;
        for (int i = 1; i < text.length(); i++) {
            char c = text.charAt(i);
            if (c == 'p') {
                left += now.pass() < 0 ? 1 : 0;
            } else if (c == 'a') {
                if (now.advice() != NONE) {
                    now.play(now.advice());
                }
            } else {
                int two = Integer.parseInt(text.substring(i + 1, i + 3));
                i += 2;
                if (c == 'd') {
                    now.deal(two);
                } else if (c == 'b') {
                    left += now.bid(two / 10, two % 10) < 0 ? 1 : 0;
                } else if (now.phase() == 2 && now.reason(two) == 0) {
                    now.play(two);
                } else {
                    left++;
                }
            }
        }
        return left;
    }

    int undo() {
        if (remembered.isEmpty()) {
            return ISE;
        }
        now = remembered.remove(remembered.size() - 1);
        return remembered.size();
    }

    int save(int slot) {
        if (slot < 0 || slot > 1) {
            return IOOBE;
        }
        slots[slot] = now.twin();
        return now.deals;
    }

    int restore(int slot) {
        if (slot < 0 || slot > 1) {
            return IOOBE;
        }
        if (slots[slot] == null) {
            return ISE;
        }
        now = slots[slot].twin();
        remembered.clear();
        return now.deals;
    }
}

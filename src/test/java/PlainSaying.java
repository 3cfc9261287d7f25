import java.util.ArrayList;
import java.util.List;

/** A SAYING read by recursive descent, for PlainModel. */
final class PlainSaying {
    Node first, second;
    int from, to, fromMonth = -1, toMonth = -1, saint = -1;
    boolean onAll;

    /** A comparison, or "!", "&", "|" over others. */
    static final class Node {
        char kind;
        int field, number;
        private int asked = 0;
        final List<Node> under = new ArrayList<>();

        boolean holds(Integer[] day) {
            switch (kind) {
                case '<': return day[field] < number;
                case '=': return day[field] == number;
                case '>': return day[field] > number;
                case '!': return !under.get(0).holds(day);
                case '&': return under.stream().allMatch(n -> n.holds(day));
                default: return under.stream().anyMatch(n -> n.holds(day));
            }
        }

        int truth(Integer[] day) {
            if (asked == 0) {
                asked = fields();
            }
            for (int f = 0; f < 4; f++) {
                if ((asked >> f & 1) == 1 && day[f] == null) {
                    return -1;
                }
            }
            return holds(day) ? 1 : 0;
        }

        int fields() {
            return under.isEmpty() ? 1 << field : under.stream().mapToInt(Node::fields).reduce(0, (a, b) -> a | b);
        }

        int comparisons() {
            return under.isEmpty() ? 1 : under.stream().mapToInt(Node::comparisons).sum();
        }

        int depth() {
            return under.isEmpty() ? 1 : 1 + under.stream().mapToInt(Node::depth).max().getAsInt();
        }
    }

    private final String text;
    private int at = 0;
    private boolean bad = false;

    private PlainSaying(String text) {
        this.text = text;
    }

    static PlainSaying read(String text) {
        PlainSaying s = new PlainSaying(text);
        s.first = s.condition();
        s.expect(':');
        s.from = s.digit();
        s.to = s.from;
        if (s.peek() == '-') {
            s.at++;
            s.to = s.digit();
            s.bad |= s.to < s.from;
        }
        s.onAll = s.peek() == '^';
        s.expect(s.onAll ? '^' : '~');
        s.second = s.condition();
        if (s.peek() == '@') {
            s.at++;
            s.season();
        }
        return s.bad || s.at < text.length() ? null : s;
    }

    private void season() {
        if (peek() == '#') {
            at++;
            saint = digit();
            bad |= saint > 7;
            return;
        }
        fromMonth = number();
        expect('-');
        toMonth = number();
        bad |= fromMonth < 1 || fromMonth > 12 || toMonth < 1 || toMonth > 12;
    }

    private char peek() {
        return at < text.length() ? text.charAt(at) : 0;
    }

    private void expect(char c) {
        bad |= peek() != c;
        at++;
    }

    private int digit() {
        char c = peek();
        bad |= c < '0' || c > '9';
        at++;
        return c - '0';
    }

    private int number() {
        boolean minus = peek() == '-';
        if (minus) {
            at++;
        }
        int value = digit();
        for (int i = 1; i < 3 && peek() >= '0' && peek() <= '9'; i++) {
            value = 10 * value + digit();
        }
        return minus ? -value : value;
    }

    private Node joined(char sign, List<Node> parts) {
        if (parts.size() == 1) {
            return parts.get(0);
        }
        Node n = new Node();
        n.kind = sign;
        n.under.addAll(parts);
        return n;
    }

    private Node condition() {
        List<Node> parts = new ArrayList<>();
        parts.add(term());
        while (!bad && peek() == '|') {
            at++;
            parts.add(term());
        }
        return joined('|', parts);
    }

    private Node term() {
        List<Node> parts = new ArrayList<>();
        parts.add(factor());
        while (!bad && peek() == '&') {
            at++;
            parts.add(factor());
        }
        return joined('&', parts);
    }

    private Node factor() {
        Node n = new Node();
        if (bad) {
            return n;
        }
        char c = peek();
        at++;
        if (c == '!') {
            n.kind = '!';
            n.under.add(factor());
        } else if (c == '(') {
            n = condition();
            expect(')');
        } else {
            n.field = "SWRT".indexOf(c);
            bad |= n.field < 0;
            n.kind = peek();
            bad |= "<=>".indexOf(n.kind) < 0;
            at++;
            n.number = number();
        }
        return n;
    }

    /** Whether a text begins some SAYING: whether one of some ends makes one of it. */
    static boolean begins(String text) {
        int open = 0;
        for (char c : text.toCharArray()) {
            open += c == '(' ? 1 : c == ')' ? -1 : 0;
        }
        String closing = ")".repeat(Math.max(open, 0));
        for (String head : new String[] {"", "1", "<1", "S<1"}) {
            for (String tail : new String[] {"", ":0~S<1"}) {
                if (read(text + head + closing + tail) != null) {
                    return true;
                }
            }
        }
        for (String tail : new String[] {"0~S<1", "9~S<1", "~S<1", "#0", "0", "1", "01", "1-1", "01-1", "-1"}) {
            if (read(text + tail) != null) {
                return true;
            }
        }
        return false;
    }

    int asks(int what) {
        int[] all = {first.fields(), second.fields(), from, to, onAll ? 1 : 0, fromMonth, toMonth, saint,
            first.comparisons(), second.comparisons(), first.depth(), second.depth()};
        return all[what];
    }
}

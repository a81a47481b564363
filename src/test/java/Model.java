import java.util.ArrayList;
import java.util.HashSet;
import java.util.List;
import java.util.Set;

/**
 * A second, slow program that follows the document's words: it lists the readings, the beginnings
 * and the orders one by one. It stands apart from the class, so that they don't err alike.
 */
final class Model {
    static final int BAD = -1, STATE = -2, FULL = -3, NONE = -9;

    /** Thrown where there is too much to list; the answer is not compared then. */
    static final class TooMuch extends RuntimeException {
        private static final long serialVersionUID = 1;
    }

    static final class Item {
        final String word;
        int kind, least, most, standard;

        Item(String word, int kind, int least, int most, int standard) {
            this.word = word;
            this.kind = kind;
            this.least = least;
            this.most = most;
            this.standard = standard;
        }
    }

    /** Rules are kept by words, which tell members apart wherever they move. */
    static final class Declared {
        final List<Item> items = new ArrayList<>();
        final Set<String> rules = new HashSet<>();
        int separator;

        Declared copy() {
            Declared c = new Declared();
            for (Item i : items) {
                c.items.add(new Item(i.word, i.kind, i.least, i.most, i.standard));
            }
            c.rules.addAll(rules);
            c.separator = separator;
            return c;
        }

        boolean comesBefore(int a, int b) {
            return rules.contains(items.get(a).word + "<" + items.get(b).word);
        }
    }

    private static final int LIMIT = 40000;

    Declared now = new Declared();
    String text = "";
    private final List<Declared> past = new ArrayList<>();
    private final Declared[] images = new Declared[2];
    private List<int[]> orderList;
    private int steps;

    private boolean isMember(int m) {
        return m >= 0 && m < now.items.size();
    }

    private void change() {
        past.add(now);
        if (past.size() > 8) {
            past.remove(0);
        }
        now = now.copy();
        orderList = null;
    }

    int write(int code) {
        if (code < 32 || code > 126) return BAD;
        if (text.length() >= 60) return FULL;
        text = text + (char) code;
        return text.length();
    }

    int wipe() {
        int length = text.length();
        text = "";
        return length;
    }

    int declare(int kind, int least, int most) {
        if (kind < 0 || kind > 2 || least < 0 || least > 3 || most < 1 || most > 3 || most < least) return BAD;
        if (!text.matches("[a-z]{1,3}")) return STATE;
        for (Item i : now.items) {
            if (i.word.equals(text)) return STATE;
        }
        if (now.items.size() == 6) return FULL;
        change();
        now.items.add(new Item(text, kind, least, most, 0));
        return now.items.size() - 1;
    }

    int remove(int m) {
        if (!isMember(m)) return BAD;
        change();
        String word = now.items.remove(m).word;
        now.rules.removeIf(r -> r.startsWith(word + "<") || r.endsWith("<" + word));
        return now.items.size();
    }

    int set(int m, int what, int v) {
        if (!isMember(m) || what < 0 || what > 3) return BAD;
        Item i = now.items.get(m);
        int[] from = {0, 0, 1, 0};
        int[] upTo = {2, 3, 3, 999};
        if (v < from[what] || v > upTo[what]) return BAD;
        if (what == 1 && v > i.most || what == 2 && v < i.least) return BAD;
        int[] was = {i.kind, i.least, i.most, i.standard};
        change();
        Item changed = now.items.get(m);
        if (what == 0) changed.kind = v;
        if (what == 1) changed.least = v;
        if (what == 2) changed.most = v;
        if (what == 3) changed.standard = v;
        return was[what];
    }

    int move(int m, int to) {
        if (!isMember(m) || !isMember(to)) return BAD;
        change();
        now.items.add(to, now.items.remove(m));
        return to;
    }

    int setSeparator(int code) {
        if (code != 0 && !(code >= 33 && code <= 47)) return BAD;
        change();
        int was = now.separator;
        now.separator = code;
        return was;
    }

    int rule(int a, int b, int on) {
        if (!isMember(a) || !isMember(b) || a == b || on < 0 || on > 1) return BAD;
        change();
        String rule = now.items.get(a).word + "<" + now.items.get(b).word;
        boolean was = on == 1 ? !now.rules.add(rule) : now.rules.remove(rule);
        return was ? 1 : 0;
    }

    int undo() {
        if (past.isEmpty()) return STATE;
        now = past.remove(past.size() - 1);
        orderList = null;
        return past.size();
    }

    private boolean clash(int a, int b) {
        String first = now.items.get(a).word, second = now.items.get(b).word;
        return a != b && (first.startsWith(second) || second.startsWith(first));
    }

    int told(int what) {
        int pairs = 0, least = 0, most = 0;
        for (int a = 0; a < now.items.size(); a++) {
            least += now.items.get(a).least;
            most += now.items.get(a).most;
            for (int b = a + 1; b < now.items.size(); b++) {
                if (clash(a, b)) pairs++;
            }
        }
        int[] all = {now.items.size(), now.separator, now.rules.size(), pairs, text.length(), past.size(), least, most};
        return what < 0 || what > 7 ? BAD : all[what];
    }

    int member(int m, int what) {
        if (!isMember(m) || what < 0 || what > 9) return BAD;
        Item i = now.items.get(m);
        if (what <= 3) return new int[] {i.kind, i.least, i.most, i.standard}[what];
        if (what == 4) return i.word.length();
        if (what <= 7) return what - 5 < i.word.length() ? i.word.charAt(what - 5) : NONE;
        int set = 0;
        for (int other = 0; other < now.items.size(); other++) {
            if (what == 8 ? now.comesBefore(m, other) : clash(m, other)) set += 1 << other;
        }
        return set;
    }

    // ---- reading

    private boolean mayFollow(List<Integer> list, int m) {
        int times = 0;
        for (int other : list) {
            if (other == m) times++;
            if (now.comesBefore(m, other)) return false;
        }
        return times < now.items.get(m).most;
    }

    private boolean hasLeast(List<Integer> list) {
        for (int m = 0; m < now.items.size(); m++) {
            int times = 0;
            for (int other : list) {
                if (other == m) times++;
            }
            if (times < now.items.get(m).least) return false;
        }
        return true;
    }

    /** The occurrence of a member with which the rest begins, or null. */
    private String occurrenceAt(String rest, Item i) {
        if (!rest.startsWith(i.word)) return null;
        if (i.kind == 0) return i.word;
        String value = "";
        for (char c : rest.substring(i.word.length()).toCharArray()) {
            boolean fits = i.kind == 1 ? c >= '0' && c <= '9' && value.length() < 3
                    : c >= 'A' && c <= 'Z' && value.isEmpty();
            if (!fits) break;
            value += c;
        }
        return value.isEmpty() ? null : i.word + value;
    }

    /** The beginnings that are the whole string, in their order. */
    private List<List<Integer>> beginnings(String whole) {
        List<List<Integer>> found = new ArrayList<>();
        steps = 0;
        collect(whole, new ArrayList<>(), found);
        return found;
    }

    private void collect(String rest, List<Integer> list, List<List<Integer>> found) {
        if (++steps > LIMIT) throw new TooMuch();
        if (rest.isEmpty()) {
            found.add(new ArrayList<>(list));
            return;
        }
        String behind = rest;
        if (!list.isEmpty() && now.separator != 0) {
            if (rest.charAt(0) != now.separator) return;
            behind = rest.substring(1);
        }
        for (int m = 0; m < now.items.size(); m++) {
            String o = occurrenceAt(behind, now.items.get(m));
            if (o != null && mayFollow(list, m)) {
                list.add(m);
                collect(behind.substring(o.length()), list, found);
                list.remove(list.size() - 1);
            }
        }
    }

    private List<List<Integer>> allReadings() {
        List<List<Integer>> all = beginnings(text);
        all.removeIf(list -> !hasLeast(list));
        return all;
    }

    private boolean isPart(String rest, Item i) {
        if (rest.isEmpty()) return false;
        if (rest.length() <= i.word.length()) {
            return i.word.startsWith(rest) && (i.kind != 0 || rest.length() < i.word.length());
        }
        return i.kind == 1 && rest.startsWith(i.word) && rest.substring(i.word.length()).matches("[0-9]{1,2}");
    }

    /** Whether the string is a beginning, perhaps with a separator and a part behind it. */
    private boolean goesWell(String s) {
        for (int cut = s.length(); cut >= 0; cut--) {
            String rest = s.substring(cut);
            for (List<Integer> list : beginnings(s.substring(0, cut))) {
                if (rest.isEmpty()) return true;
                boolean separated = !list.isEmpty() && now.separator != 0;
                if (separated && rest.charAt(0) != now.separator) continue;
                String part = separated ? rest.substring(1) : rest;
                for (int m = 0; m < now.items.size(); m++) {
                    boolean fits = separated && part.isEmpty() || isPart(part, now.items.get(m));
                    if (fits && mayFollow(list, m)) return true;
                }
            }
        }
        return false;
    }

    int fault() {
        if (!allReadings().isEmpty()) return NONE;
        for (int n = text.length(); n > 0; n--) {
            if (goesWell(text.substring(0, n))) return n;
        }
        return 0;
    }

    int readings() {
        return Math.min(1000000, allReadings().size());
    }

    private static int numberOf(Item i, String o) {
        String value = o.substring(i.word.length());
        return i.kind == 0 ? 1 : i.kind == 1 ? Integer.parseInt(value) : value.charAt(0) - 'A';
    }

    /** Member, position and value of each occurrence of the first reading, or null. */
    private List<int[]> first() {
        List<List<Integer>> all = allReadings();
        if (all.isEmpty()) return null;
        List<int[]> occurrences = new ArrayList<>();
        int at = 0;
        for (int m : all.get(0)) {
            if (at > 0 && now.separator != 0) at++;
            String o = occurrenceAt(text.substring(at), now.items.get(m));
            occurrences.add(new int[] {m, at, numberOf(now.items.get(m), o)});
            at += o.length();
        }
        return occurrences;
    }

    int occurrence(int k, int what) {
        if (k < 0 || what < 0 || what > 2) return BAD;
        List<int[]> first = first();
        if (first == null) return STATE;
        return k < first.size() ? first.get(k)[what] : NONE;
    }

    int value(int m, int k) {
        if (!isMember(m) || k < 0) return BAD;
        List<int[]> first = first();
        if (first == null) return STATE;
        first.removeIf(o -> o[0] != m);
        if (first.isEmpty() && k == 0) return now.items.get(m).standard;
        return k < first.size() ? first.get(k)[2] : NONE;
    }

    int next() {
        List<List<Integer>> all = beginnings(text);
        int set = 0;
        for (List<Integer> list : all) {
            for (int m = 0; m < now.items.size(); m++) {
                if (mayFollow(list, m)) set |= 1 << m;
            }
        }
        return all.isEmpty() ? NONE : set;
    }

    int normal(int i) {
        if (i < 0) return BAD;
        List<int[]> first = first();
        if (first == null) return STATE;
        List<String> parts = new ArrayList<>();
        for (int m = 0; m < now.items.size(); m++) {
            Item item = now.items.get(m);
            for (int[] o : first) {
                String value = item.kind == 0 ? "" : item.kind == 1 ? String.valueOf(o[2])
                        : String.valueOf((char) ('A' + o[2]));
                if (o[0] == m) parts.add(item.word + value);
            }
        }
        String form = String.join(now.separator == 0 ? "" : String.valueOf((char) now.separator), parts);
        return i < form.length() ? form.charAt(i) : NONE;
    }

    // ---- orders

    private List<int[]> allOrders() {
        if (orderList == null) {
            List<int[]> found = new ArrayList<>();
            steps = 0;
            collectOrders(new ArrayList<>(), found);
            orderList = found;
        }
        return orderList;
    }

    private void collectOrders(List<Integer> list, List<int[]> found) {
        if (++steps > LIMIT) throw new TooMuch();
        if (hasLeast(list)) {
            int[] order = new int[list.size()];
            for (int i = 0; i < order.length; i++) {
                order[i] = list.get(i);
            }
            found.add(order);
        }
        for (int m = 0; m < now.items.size(); m++) {
            if (mayFollow(list, m)) {
                list.add(m);
                collectOrders(list, found);
                list.remove(list.size() - 1);
            }
        }
    }

    long orders(int length) {
        if (length < -1 || length > 18) return BAD;
        long count = 0;
        for (int[] order : allOrders()) {
            if (length == -1 || order.length == length) count++;
        }
        return count;
    }

    int order(long n, int k) {
        if (n < 0 || k < 0) return BAD;
        if (n >= allOrders().size()) return NONE;
        int[] order = allOrders().get((int) n);
        return k < order.length ? order[k] : NONE;
    }

    long rank() {
        List<List<Integer>> all = allReadings();
        if (all.isEmpty()) return STATE;
        for (int n = 0; n < allOrders().size(); n++) {
            List<Integer> order = new ArrayList<>();
            for (int m : allOrders().get(n)) {
                order.add(m);
            }
            if (order.equals(all.get(0))) return n;
        }
        throw new IllegalStateException("a reading that is no order");
    }

    // ---- images

    int keep(int i) {
        if (i < 0 || i > 1) return BAD;
        images[i] = now.copy();
        return now.items.size();
    }

    int back(int i) {
        if (i < 0 || i > 1) return BAD;
        if (images[i] == null) return STATE;
        change();
        now = images[i].copy();
        return now.items.size();
    }
}

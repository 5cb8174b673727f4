import java.util.ArrayList;
import java.util.List;
import java.util.regex.Matcher;
import java.util.regex.Pattern;

/**
 * The document written down a second time, as unlike the program as can be: states are never changed but
 * copied, undo goes back to an older state, the text is cut by patterns.
 */
final class Model {
    private static final int BAD = -1, NO = -2, FULL = -3, NONE = -4;
    private static final Pattern ITEM = Pattern.compile(
        "(?:(h)(\\d{1,3}),(\\d{1,3}),(\\d{1,3})|([rp])(\\d{1,3}),(\\d{1,3})|(i)(\\d{1,3}));");

    record Slate(int heap, int from, int to, int lost) { }

    record Row(int length, int foot, int gauge, int room, List<Slate> slates) {
        int waste() {
            return slates.stream().mapToInt(s -> s.lost() * length).sum();
        }

        List<Integer> joints() {
            return slates.stream().limit(slates.size() - 1).map(Slate::to).toList();
        }
    }

    record Kind(int length, int breadth) { }

    record State(List<Integer> left, List<Row> rows) { }

    private static final class Told {
        final List<Kind> kinds = new ArrayList<>();
        final List<Integer> slates = new ArrayList<>();
        int high = 100, wide = 120, lap = 6, breaking = 4, hip = 0;
        int fault = NONE;
    }

    private String text = "";
    private Told told;
    private State now;
    private List<State> past = new ArrayList<>();

    Model() {
        begin(read("h40,30,30;h40,22,30;h40,17,9;h30,25,40;h30,18,40;h24,20,60;h24,11,30;r110,130;p6,4;i2;"));
    }

    private void begin(Told read) {
        told = read;
        now = new State(List.copyOf(told.slates), List.of());
        past = new ArrayList<>();
    }

    private static Told read(String text) {
        Told told = new Told();
        Matcher item = ITEM.matcher(text);
        int at = 0;
        while (at < text.length()) {
            item.region(at, text.length());
            if (!item.lookingAt() || !take(told, item)) {
                told.fault = at;
                return told;
            }
            at = item.end();
        }
        return told;
    }

    private static boolean in(int n, int low, int high) {
        return low <= n && n <= high;
    }

    private static boolean take(Told told, Matcher item) {
        if (item.group(1) != null) {
            return takeHeap(told, number(item, 2), number(item, 3), number(item, 4));
        }
        if (item.group(8) != null) {
            told.hip = number(item, 9);
            return told.hip <= 9;
        }
        int a = number(item, 6);
        int b = number(item, 7);
        if (item.group(5).equals("r")) {
            told.high = a;
            told.wide = b;
            return in(a, 20, 400) && in(b, 40, 240);
        }
        told.lap = a;
        told.breaking = b;
        return in(a, 1, 10) && in(b, 1, 9);
    }

    private static int number(Matcher item, int group) {
        return Integer.parseInt(item.group(group));
    }

    private static boolean takeHeap(Told told, int l, int b, int n) {
        if (!in(l, 20, 60) || !in(b, 10, 60) || !in(n, 1, 99)) {
            return false;
        }
        Kind kind = new Kind(l, b);
        int at = told.kinds.indexOf(kind);
        if (at >= 0) {
            told.slates.set(at, told.slates.get(at) + n);
            return told.slates.get(at) <= 999;
        }
        at = (int) told.kinds.stream().filter(k -> k.length() * 100 + k.breadth() > l * 100 + b).count();
        told.kinds.add(at, kind);
        told.slates.add(at, n);
        return told.kinds.size() <= 8;
    }

    private int head(State s) {
        return s.rows().isEmpty() ? 0 : last(s).foot() + last(s).gauge();
    }

    private static Row last(State s) {
        return s.rows().get(s.rows().size() - 1);
    }

    private boolean ready(State s) {
        return head(s) >= told.high;
    }

    /** The state with a course of that length more, or null. */
    private State laid(State s, int l) {
        if (told.kinds.stream().noneMatch(k -> k.length() == l)) {
            return null;
        }
        if (ready(s) || s.rows().size() == 20 || !s.rows().isEmpty() && l > last(s).length()) {
            return null;
        }
        int foot = head(s);
        int room = Math.max(20, told.wide - (int) Math.floor(told.hip * foot / 10.0));
        boolean[] free = new boolean[400];
        for (int p = 0; p < free.length; p++) {
            int place = p;
            free[p] = s.rows().isEmpty()
                || last(s).joints().stream().allMatch(j -> Math.abs(j - place) >= told.breaking);
        }
        List<Integer> left = new ArrayList<>(s.left());
        List<Slate> slates = fill(left, l, room, free);
        if (slates == null) {
            return null;
        }
        List<Row> rows = new ArrayList<>(s.rows());
        rows.add(new Row(l, foot, (l - told.lap) / 2, room, slates));
        return new State(left, rows);
    }

    private List<Slate> fill(List<Integer> left, int l, int room, boolean[] free) {
        List<Slate> slates = new ArrayList<>();
        int p = 0;
        while (p < room) {
            int ends = -1, breaks = -1, most = -1;
            for (int h = 0; h < told.kinds.size(); h++) {
                if (told.kinds.get(h).length() != l || left.get(h) == 0) {
                    continue;
                }
                int b = breadth(h);
                if (p + b >= room && (ends < 0 || b < breadth(ends))) {
                    ends = h;
                }
                if (p + b < room && free[p + b] && (breaks < 0 || b > breadth(breaks))) {
                    breaks = h;
                }
                if (most < 0 || b > breadth(most)) {
                    most = h;
                }
            }
            int h = ends >= 0 ? ends : breaks >= 0 ? breaks : most;
            if (h < 0 || slates.size() == 60) {
                return null;
            }
            int to = ends >= 0 ? room : p + breadth(h);
            while (ends < 0 && to > p && !free[to]) {
                to--;
            }
            if (to == p) {
                return null;
            }
            slates.add(new Slate(h, p, to, breadth(h) - (to - p)));
            left.set(h, left.get(h) - 1);
            p = to;
        }
        return slates;
    }

    private int breadth(int h) {
        return told.kinds.get(h).breadth();
    }

    private int best(State s, int how) {
        int best = NONE;
        double least = 0;
        for (int l = 60; l >= 20; l--) {
            State then = laid(s, l);
            if (then == null) {
                continue;
            }
            double loss = (double) last(then).waste() / last(then).gauge();
            if (best == NONE || how == 0 && loss < least - 1e-9) {
                best = l;
                least = loss;
            }
        }
        return best;
    }

    private void become(State then) {
        past.add(now);
        if (past.size() > 6) {
            past.remove(0);
        }
        now = then;
    }

    int write(int letter) {
        if (!in(letter, 32, 126)) {
            return BAD;
        }
        if (text.length() == 200) {
            return FULL;
        }
        text += (char) letter;
        return text.length();
    }

    int wipe() {
        int size = text.length();
        text = "";
        return size;
    }

    int fault() {
        return read(text).fault;
    }

    int lay() {
        Told read = read(text);
        if (read.fault != NONE || read.kinds.isEmpty()) {
            return NO;
        }
        begin(read);
        return read.kinds.size();
    }

    int course(int l) {
        if (!in(l, 20, 60)) {
            return BAD;
        }
        State then = laid(now, l);
        if (then == null) {
            return NO;
        }
        become(then);
        return last(then).slates().size();
    }

    int up() {
        if (now.rows().isEmpty()) {
            return NO;
        }
        List<Integer> left = new ArrayList<>(now.left());
        for (Slate slate : last(now).slates()) {
            left.set(slate.heap(), left.get(slate.heap()) + 1);
        }
        become(new State(left, now.rows().subList(0, now.rows().size() - 1)));
        return now.rows().size();
    }

    int bring(int h, int n) {
        if (!in(h, 0, told.kinds.size() - 1) || !in(n, 1, 99)) {
            return BAD;
        }
        List<Integer> left = new ArrayList<>(now.left());
        left.set(h, left.get(h) + n);
        if (left.get(h) > 999) {
            return FULL;
        }
        become(new State(left, now.rows()));
        return left.get(h);
    }

    int undo() {
        if (past.isEmpty()) {
            return NO;
        }
        now = past.remove(past.size() - 1);
        return past.size();
    }

    int heap(int h, int what) {
        if (!in(h, 0, told.kinds.size() - 1) || !in(what, 0, 3)) {
            return BAD;
        }
        int laid = (int) now.rows().stream().flatMap(r -> r.slates().stream()).filter(s -> s.heap() == h).count();
        return new int[] {told.kinds.get(h).length(), breadth(h), now.left().get(h), laid}[what];
    }

    int told(int c, int what) {
        if (!in(c, 0, now.rows().size() - 1) || !in(what, 0, 7)) {
            return BAD;
        }
        Row row = now.rows().get(c);
        int held = c + 1 < now.rows().size() ? row.length() - row.gauge() - now.rows().get(c + 1).gauge() : NONE;
        int cut = (int) row.slates().stream().filter(s -> s.lost() > 0).count();
        return new int[] {row.length(), row.foot(), row.gauge(), row.room(), row.slates().size(), row.waste(), held,
            cut}[what];
    }

    int joint(int c, int k) {
        if (!in(c, 0, now.rows().size() - 1) || k < 0) {
            return BAD;
        }
        List<Integer> joints = now.rows().get(c).joints();
        return k < joints.size() ? joints.get(k) : NONE;
    }

    int slate(int c, int k, int what) {
        if (!in(c, 0, now.rows().size() - 1) || k < 0 || !in(what, 0, 1)) {
            return BAD;
        }
        List<Slate> slates = now.rows().get(c).slates();
        if (k >= slates.size()) {
            return NONE;
        }
        return what == 0 ? slates.get(k).heap() : slates.get(k).to() - slates.get(k).from();
    }

    int tried(int l, int what) {
        if (!in(l, 20, 60) || !in(what, 0, 1)) {
            return BAD;
        }
        State then = laid(now, l);
        return then == null ? NO : what == 0 ? last(then).slates().size() : last(then).waste();
    }

    int next(int how) {
        return in(how, 0, 1) ? best(now, how) : BAD;
    }

    int itself(int how, int what) {
        if (!in(how, 0, 1) || !in(what, 0, 2)) {
            return BAD;
        }
        State s = now;
        for (int l = best(s, how); l != NONE; l = best(s, how)) {
            s = laid(s, l);
        }
        return new int[] {s.rows().size() - now.rows().size(), waste(s) - waste(now), ready(s) ? 1 : 0}[what];
    }

    private static int waste(State s) {
        return s.rows().stream().mapToInt(Row::waste).sum();
    }

    int count(int what) {
        if (!in(what, 0, 12)) {
            return BAD;
        }
        int left = now.left().stream().mapToInt(n -> n).sum();
        return new int[] {told.kinds.size(), now.rows().size(), told.high, told.wide, told.lap, told.breaking, told.hip,
            head(now), ready(now) ? 1 : 0, waste(now), left, past.size(), text.length()}[what];
    }
}

import java.io.ByteArrayInputStream;
import java.io.ByteArrayOutputStream;
import java.io.IOException;
import java.io.ObjectInputStream;
import java.io.ObjectOutputStream;
import java.io.Serializable;
import java.util.ArrayList;
import java.util.Arrays;
import java.util.List;
import java.util.Map;
import java.util.TreeMap;
import java.util.TreeSet;

/**
 * The document told a second time, in the slowest and plainest way: texts are kept as texts and read anew each
 * time, states are folded from the first event on, an image is all of it written out. RandomRuns holds StockEvents
 * against it.
 */
final class Model {
    static final List<String> KINDS =
        List.of("opened", "put", "taken", "held", "freed", "priced", "sent", "got", "closed");
    static final List<String> VERBS = List.of("open", "put", "take", "hold", "free", "price", "send", "close");
    static final List<String> MADE = List.of("opened", "put", "taken", "held", "freed", "priced", "sent", "closed");
    static final List<String> FOLDS = List.of("sum", "count", "most", "least", "first", "last");
    static final List<String> KEYS = List.of("stream", "kind", "none");
    static final int VOID = -2000000000;

    record Event(int position, int stream, int version, String kind, int format, int a, int b)
        implements Serializable { }

    record Upcaster(String toA, String toB) implements Serializable { }

    record Snapshot(int version, int era) implements Serializable { }

    record Line(int stream, String verb, int n, int target) implements Serializable { }

    static final class Projecting implements Serializable {
        String text;
        int checkpoint;
        TreeMap<Integer, Integer> rows = new TreeMap<>();

        Projecting(String text) {
            this.text = text;
        }
    }

    static final class Ruling implements Serializable {
        String text;
        int checkpoint;
        int done;
        int refused;
    }

    static final class Fault extends RuntimeException {
        final int where;

        Fault(int where) {
            super(null, null, false, false);
            this.where = where;
        }
    }

    static final class All implements Serializable {
        List<Event> log = new ArrayList<>();
        TreeMap<String, List<Upcaster>> upcasters = new TreeMap<>();
        TreeMap<Integer, List<Snapshot>> snapshots = new TreeMap<>();
        TreeMap<Integer, Integer> numbers = new TreeMap<>();
        Projecting[] live = new Projecting[4];
        Projecting[] beside = new Projecting[4];
        Ruling[] policies = new Ruling[4];
        TreeSet<String> harmless = new TreeSet<>();
        int[][] seen = new int[4][];
        int[] led = new int[7];
        int every;
    }

    All all = new All();
    byte[] image;
    String tape = "";

    // ---- reading texts

    static final class Text {
        final String t;
        int i;

        Text(String t) {
            this.t = t;
        }

        char peek() {
            return i < t.length() ? t.charAt(i) : 0;
        }

        void sign(char c) {
            if (peek() != c) {
                throw new Fault(i);
            }
            i++;
        }

        String word(List<String> words) {
            int j = i;
            while (j < t.length() && t.charAt(j) >= 'a' && t.charAt(j) <= 'z') {
                j++;
            }
            String w = t.substring(i, j);
            if (!words.contains(w)) {
                throw new Fault(i);
            }
            i = j;
            return w;
        }

        int number(int most) {
            int j = i;
            while (j < t.length() && j < i + 4 && Character.isDigit(t.charAt(j)) && t.charAt(j) < 128) {
                j++;
            }
            if (j == i || Integer.parseInt(t.substring(i, j)) > most) {
                throw new Fault(i);
            }
            int n = Integer.parseInt(t.substring(i, j));
            i = j;
            return n;
        }

        void end() {
            if (i < t.length()) {
                throw new Fault(i);
            }
        }

        int c(Map<Character, Integer> env, int open) {
            int x = e(env, open);
            char op = peek();
            if (op == '<' || op == '=' || op == '>') {
                i++;
                int y = e(env, open);
                return (op == '<' ? x < y : op == '=' ? x == y : x > y) ? 1 : 0;
            }
            return x;
        }

        int e(Map<Character, Integer> env, int open) {
            int x = s(env, open);
            while (peek() == '+' || peek() == '-') {
                char op = t.charAt(i++);
                int y = s(env, open);
                x = op == '+' ? x + y : x - y;
            }
            return x;
        }

        int s(Map<Character, Integer> env, int open) {
            int x = o(env, open);
            while (peek() == '*' || peek() == '/' || peek() == '%') {
                char op = t.charAt(i++);
                int y = o(env, open);
                x = op == '*' ? x * y : y == 0 ? 0 : op == '/' ? x / y : x % y;
            }
            return x;
        }

        int o(Map<Character, Integer> env, int open) {
            char c = peek();
            if (c >= '0' && c <= '9') {
                return number(9999);
            }
            if (c >= 'a' && c <= 'z') {
                List<String> letters = new ArrayList<>();
                env.keySet().forEach(letter -> letters.add("" + letter));
                return env.get(word(letters).charAt(0));
            }
            if ((c == '-' || c == '(') && open < 6) {
                i++;
                int x = c == '-' ? -o(env, open + 1) : c(env, open + 1);
                if (c == '(') {
                    sign(')');
                }
                return x;
            }
            throw new Fault(i);
        }

        TreeSet<String> kinds() {
            TreeSet<String> kinds = new TreeSet<>();
            List<String> orAll = new ArrayList<>(KINDS);
            orAll.add("all");
            String w = word(orAll);
            if (w.equals("all")) {
                kinds.addAll(KINDS);
                return kinds;
            }
            kinds.add(w);
            while (peek() == '+') {
                i++;
                kinds.add(word(KINDS));
            }
            return kinds;
        }

        Line command(Map<Character, Integer> env) {
            String verb = word(VERBS);
            int n = 0;
            int target = 0;
            if (!verb.equals("close")) {
                sign(' ');
                if (env != null && peek() == '(') {
                    i++;
                    n = Math.min(999, Math.max(0, c(env, 1)));
                    sign(')');
                } else {
                    n = number(999);
                }
                if (verb.equals("send")) {
                    sign(' ');
                    word(List.of("to"));
                    sign(' ');
                    target = number(7);
                }
            }
            return new Line(-1, verb, n, target);
        }
    }

    static Map<Character, Integer> env(String letters, int... values) {
        Map<Character, Integer> env = new TreeMap<>();
        for (int i = 0; i < letters.length(); i++) {
            env.put(letters.charAt(i), i < values.length ? values[i] : 0);
        }
        return env;
    }

    String taken() {
        String t = tape;
        tape = "";
        return t;
    }

    // ---- what is so

    int version(int stream) {
        return (int) all.log.stream().filter(e -> e.stream == stream).count();
    }

    List<Upcaster> upcasters(String kind) {
        return all.upcasters.getOrDefault(kind, List.of());
    }

    int era() {
        return all.upcasters.values().stream().mapToInt(List::size).sum();
    }

    int[] read(Event e) {
        int a = e.a;
        int b = e.b;
        for (int f = e.format; f <= upcasters(e.kind).size(); f++) {
            Upcaster u = upcasters(e.kind).get(f - 1);
            int x = new Text(u.toA).c(env("abs", a, b, e.stream), 0);
            int y = new Text(u.toB).c(env("abs", a, b, e.stream), 0);
            a = x;
            b = y;
        }
        return new int[] {a, b, e.stream};
    }

    static void change(int[] s, String kind, int a) {
        switch (kind) {
            case "opened" -> {
                s[0] = 1;
                s[3] = a;
            }
            case "put", "got" -> s[1] += a;
            case "taken", "sent" -> s[1] -= a;
            case "held" -> s[2] += a;
            case "freed" -> s[2] -= a;
            case "priced" -> s[3] = a;
            default -> s[0] = 2;
        }
    }

    int[] fold(int stream, int version) {
        int[] s = new int[4];
        for (Event e : all.log) {
            if (e.stream == stream && e.version <= version) {
                change(s, e.kind, read(e)[0]);
            }
        }
        return s;
    }

    int[][] states() {
        int[][] s = new int[8][];
        for (int i = 0; i < 8; i++) {
            s[i] = fold(i, 999);
        }
        return s;
    }

    static int refusal(int[][] s, int stream, Line l) {
        int[] me = s[stream];
        if (l.verb.equals("open")) {
            return me[0] == 0 ? 0 : 22;
        }
        if (me[0] != 1) {
            return 21;
        }
        if (l.verb.equals("send") && (l.target == stream || s[l.target][0] != 1)) {
            return 25;
        }
        if (List.of("take", "hold", "send").contains(l.verb) && l.n > me[1] - me[2]) {
            return 23;
        }
        if (l.verb.equals("free") && l.n > me[2]) {
            return 23;
        }
        return l.verb.equals("close") && me[1] != 0 ? 24 : 0;
    }

    void come(int stream, String kind, int a, int b) {
        int v = version(stream) + 1;
        all.log.add(new Event(all.log.size() + 1, stream, v, kind, upcasters(kind).size() + 1, a, b));
        if (all.every > 0 && v % all.every == 0) {
            shoot(stream);
        }
    }

    void shoot(int stream) {
        List<Snapshot> l = all.snapshots.computeIfAbsent(stream, k -> new ArrayList<>());
        l.add(new Snapshot(version(stream), era()));
        if (l.size() > 4) {
            l.remove(0);
        }
    }

    static int needs(Line l) {
        return l.verb.equals("send") ? 2 : 1;
    }

    int carry(int stream, Line l) {
        int r = refusal(states(), stream, l);
        if (r > 0) {
            all.led[3]++;
            return -r;
        }
        if (all.log.size() + needs(l) > 240) {
            return -3;
        }
        come(stream, MADE.get(VERBS.indexOf(l.verb)), l.n, l.verb.equals("send") ? l.target : 0);
        if (l.verb.equals("send")) {
            come(l.target, "got", l.n, stream);
        }
        all.led[0]++;
        return version(stream);
    }

    static boolean in(int x, int a, int b) {
        return x >= a && x <= b;
    }

    // ---- the face

    int feed(int letter) {
        if (!in(letter, 1, 255)) {
            return -1;
        }
        if (tape.length() == 160) {
            return -3;
        }
        tape += (char) letter;
        return tape.length();
    }

    int ask(int stream, int expected, int number) {
        if (!in(stream, 0, 7) || expected < -1 || !in(number, 0, 999)) {
            return -1;
        }
        Line l;
        try {
            Text t = new Text(taken());
            l = t.command(null);
            t.end();
        } catch (Fault f) {
            return -100 - f.where;
        }
        if (all.numbers.containsKey(number)) {
            all.led[1]++;
            return all.numbers.get(number);
        }
        if (expected != -1 && expected != version(stream)) {
            all.led[2]++;
            return -4;
        }
        int r = carry(stream, l);
        if (r > 0 && number > 0) {
            all.numbers.put(number, r);
        }
        return r;
    }

    List<Line> lines(String tape) {
        List<Line> lines = new ArrayList<>();
        Text t = new Text(tape);
        while (true) {
            int s = t.number(7);
            t.sign(':');
            Line l = t.command(null);
            lines.add(new Line(s, l.verb, l.n, l.target));
            if (t.peek() != ';') {
                t.end();
                return lines;
            }
            t.i++;
        }
    }

    int batch() {
        List<Line> lines;
        try {
            lines = lines(taken());
        } catch (Fault f) {
            return -100 - f.where;
        }
        byte[] before = write();
        int size = all.log.size();
        for (int i = 0; i < lines.size(); i++) {
            int r = carry(lines.get(i).stream, lines.get(i));
            if (r < 0) {
                lay(before);
                if (r != -3) {
                    all.led[3]++;
                }
                return -300 - i;
            }
        }
        return all.log.size() - size;
    }

    int upcast() {
        String text = taken();
        Text t = new Text(text);
        try {
            String kind = t.word(KINDS);
            t.sign(':');
            int from = t.i;
            t.c(env("abs"), 0);
            String a = text.substring(from, t.i);
            t.sign(',');
            from = t.i;
            t.c(env("abs"), 0);
            t.end();
            if (upcasters(kind).size() == 3) {
                return -3;
            }
            List<Upcaster> l = all.upcasters.computeIfAbsent(kind, k -> new ArrayList<>());
            l.add(new Upcaster(a, text.substring(from)));
            return l.size() + 1;
        } catch (Fault f) {
            return -100 - f.where;
        }
    }

    int state(int stream, int what) {
        if (!in(stream, 0, 7) || !in(what, 0, 4)) {
            return VOID;
        }
        return what == 4 ? version(stream) : fold(stream, 999)[what];
    }

    boolean isVersion(int stream, int version) {
        return in(stream, 0, 7) && in(version, 0, version(stream));
    }

    int at(int stream, int version, int what) {
        return isVersion(stream, version) && in(what, 0, 3) ? fold(stream, version)[what] : VOID;
    }

    List<Snapshot> snapshots(int stream) {
        return all.snapshots.getOrDefault(stream, List.of());
    }

    int steps(int stream, int version) {
        if (!isVersion(stream, version)) {
            return -1;
        }
        int steps = version;
        for (Snapshot s : snapshots(stream)) {
            if (s.era == era() && s.version <= version) {
                steps = Math.min(steps, version - s.version);
            }
        }
        return steps;
    }

    int snap(int stream) {
        if (!in(stream, 0, 7)) {
            return -1;
        }
        shoot(stream);
        return version(stream);
    }

    int snaps(int stream, int what) {
        if (!in(stream, 0, 7) || !in(what, 0, 1)) {
            return -1;
        }
        return (int) snapshots(stream).stream().filter(s -> what == 0 || s.era == era()).count();
    }

    int every(int n) {
        if (!in(n, 0, 20)) {
            return -1;
        }
        int before = all.every;
        all.every = n;
        return before;
    }

    int event(int position, int what) {
        if (!in(position, 1, all.log.size()) || !in(what, 0, 7)) {
            return VOID;
        }
        Event e = all.log.get(position - 1);
        int[] told = {e.stream, e.version, KINDS.indexOf(e.kind), e.format, e.a, e.b, read(e)[0], read(e)[1]};
        return told[what];
    }

    String textOf(int position) {
        Event e = all.log.get(position - 1);
        return position + ":" + e.kind + " " + e.stream + "." + e.version + " a=" + e.a + " b=" + e.b + " f" + e.format;
    }

    int text(int position, int i) {
        if (!in(position, 1, all.log.size()) || i < -1) {
            return -1;
        }
        String t = textOf(position);
        return i == -1 ? t.length() : i < t.length() ? t.charAt(i) : -2;
    }

    int find(int stream, int version) {
        for (Event e : all.log) {
            if (e.stream == stream && e.version == version) {
                return e.position;
            }
        }
        return -1;
    }

    long worth(int position) {
        if (!in(position, 0, all.log.size())) {
            return Long.MIN_VALUE;
        }
        long sum = 0;
        for (int s = 0; s < 8; s++) {
            int v = 0;
            for (Event e : all.log) {
                v += e.stream == s && e.position <= position ? 1 : 0;
            }
            int[] st = fold(s, v);
            sum += st[0] == 1 ? (long) st[1] * st[3] : 0;
        }
        return sum;
    }

    /** Reads a projection and lets it handle an event (or none: it is only read). */
    void projecting(Projecting p, Event e) {
        Text t = new Text(p.text);
        String fold = t.word(FOLDS);
        t.sign(' ');
        t.word(List.of("of"));
        t.sign(' ');
        TreeSet<String> kinds = t.kinds();
        t.sign(' ');
        t.word(List.of("by"));
        t.sign(' ');
        String key = t.word(KEYS);
        int[] abs = e == null ? new int[3] : read(e);
        int c = 1;
        if (t.peek() == ' ') {
            t.i++;
            t.word(List.of("if"));
            t.sign(' ');
            c = t.c(env("abs", abs), 0);
        }
        t.end();
        if (e == null) {
            return;
        }
        p.checkpoint = e.position;
        if (!kinds.contains(e.kind) || c == 0) {
            return;
        }
        int k = key.equals("stream") ? e.stream : key.equals("kind") ? KINDS.indexOf(e.kind) : 0;
        Integer old = p.rows.get(k);
        int a = abs[0];
        p.rows.put(k, switch (fold) {
            case "sum" -> old == null ? a : old + a;
            case "count" -> old == null ? 1 : old + 1;
            case "most" -> old == null || a > old ? a : old;
            case "least" -> old == null || a < old ? a : old;
            case "first" -> old == null ? a : old;
            default -> a;
        });
    }

    int project(int p) {
        if (!in(p, 0, 3)) {
            return -1;
        }
        Projecting told = new Projecting(taken());
        try {
            projecting(told, null);
        } catch (Fault f) {
            return -100 - f.where;
        }
        all.live[p] = told;
        all.beside[p] = null;
        return 1;
    }

    int rebuild(int p) {
        if (!in(p, 0, 3)) {
            return -1;
        }
        if (all.live[p] == null) {
            return -5;
        }
        Projecting told = new Projecting(tape.isEmpty() ? all.live[p].text : taken());
        try {
            projecting(told, null);
        } catch (Fault f) {
            return -100 - f.where;
        }
        all.beside[p] = told;
        return 1;
    }

    Projecting one(int p, int which) {
        return which == 0 ? all.live[p] : all.beside[p];
    }

    int deliver(int p, int which, int from, int n) {
        if (!in(p, 0, 3) || !in(which, 0, 1) || from < 1 || !in(n, 1, 240)) {
            return -1;
        }
        Projecting one = one(p, which);
        if (one == null) {
            return -5;
        }
        int handled = 0;
        for (long position = from; position < (long) from + n && position <= all.log.size(); position++) {
            if (position <= one.checkpoint) {
                all.led[5]++;
            } else if (position > one.checkpoint + 1) {
                all.led[6]++;
                break;
            } else {
                projecting(one, all.log.get((int) position - 1));
                all.led[4]++;
                handled++;
            }
        }
        return handled;
    }

    int swap(int p) {
        if (!in(p, 0, 3)) {
            return -1;
        }
        if (all.beside[p] == null || all.beside[p].checkpoint < all.live[p].checkpoint) {
            return -5;
        }
        all.live[p] = all.beside[p];
        all.beside[p] = null;
        return all.live[p].checkpoint;
    }

    int look(int p, int which, int what) {
        if (!in(p, 0, 3) || !in(which, 0, 1) || !in(what, 0, 4) || one(p, which) == null) {
            return VOID;
        }
        Projecting one = one(p, which);
        Projecting again = new Projecting(one.text);
        for (int i = 0; i < one.checkpoint; i++) {
            projecting(again, all.log.get(i));
        }
        int sum = one.rows.values().stream().mapToInt(x -> x).sum();
        int isTrue = again.rows.equals(one.rows) ? 1 : 0;
        return new int[] {one.checkpoint, one.rows.size(), all.log.size() - one.checkpoint, isTrue, sum}[what];
    }

    int row(int p, int which, int key) {
        if (!in(p, 0, 3) || !in(which, 0, 1) || !in(key, 0, 8) || one(p, which) == null) {
            return VOID;
        }
        return one(p, which).rows.getOrDefault(key, VOID);
    }

    /** Reads a policy: what it asks for an event, null if nothing. */
    Line ruling(String text, Event e) {
        int[] abs = e == null ? new int[3] : read(e);
        Text t = new Text(text);
        t.word(List.of("on"));
        t.sign(' ');
        TreeSet<String> kinds = t.kinds();
        t.sign(' ');
        int c = 1;
        if (t.word(List.of("if", "do")).equals("if")) {
            t.sign(' ');
            c = t.c(env("abs", abs), 0);
            t.sign(' ');
            t.word(List.of("do"));
        }
        t.sign(' ');
        Line l = t.command(env("abs", abs));
        t.end();
        return e != null && kinds.contains(e.kind) && c != 0 ? l : null;
    }

    int policy(int p) {
        if (!in(p, 0, 3)) {
            return -1;
        }
        Ruling r = new Ruling();
        r.text = taken();
        r.checkpoint = all.log.size();
        try {
            ruling(r.text, null);
        } catch (Fault f) {
            return -100 - f.where;
        }
        all.policies[p] = r;
        return 1;
    }

    int run(int p, int n) {
        if (!in(p, 0, 3) || !in(n, 1, 240)) {
            return -1;
        }
        Ruling r = all.policies[p];
        if (r == null) {
            return -5;
        }
        int handled = 0;
        for (; handled < n && r.checkpoint < all.log.size(); handled++) {
            Event e = all.log.get(r.checkpoint);
            Line l = ruling(r.text, e);
            if (l != null) {
                int answer = carry(e.stream, l);
                if (answer == -3) {
                    return handled;
                }
                r.done += answer > 0 ? 1 : 0;
                r.refused += answer > 0 ? 0 : 1;
            }
            r.checkpoint++;
        }
        return handled;
    }

    int policyOf(int p, int what) {
        if (!in(p, 0, 3) || !in(what, 0, 2)) {
            return -1;
        }
        Ruling r = all.policies[p];
        return r == null ? -5 : new int[] {r.checkpoint, r.done, r.refused}[what];
    }

    int see(int client, int stream) {
        if (!in(client, 0, 3) || !in(stream, 0, 7)) {
            return -1;
        }
        all.seen[client] = new int[] {stream, version(stream)};
        return version(stream);
    }

    int harmless() {
        Text t = new Text(taken());
        try {
            TreeSet<String> kinds = t.t.isEmpty() ? new TreeSet<>() : t.kinds();
            t.end();
            all.harmless = kinds;
            return kinds.size();
        } catch (Fault f) {
            return -100 - f.where;
        }
    }

    int attempt(int client, int harmless) {
        if (!in(client, 0, 3) || !in(harmless, 0, 1)) {
            return -1;
        }
        if (all.seen[client] == null) {
            return -5;
        }
        Line l;
        try {
            Text t = new Text(taken());
            l = t.command(null);
            t.end();
        } catch (Fault f) {
            return -100 - f.where;
        }
        int stream = all.seen[client][0];
        int version = all.seen[client][1];
        boolean harm = all.log.stream()
            .anyMatch(e -> e.stream == stream && e.version > version && !all.harmless.contains(e.kind));
        if (version(stream) != version && (harmless == 0 || harm)) {
            all.led[2]++;
            return -4;
        }
        int answer = carry(stream, l);
        if (answer > 0) {
            all.seen[client] = new int[] {stream, answer};
        }
        return answer;
    }

    int watch(int stream, int what) {
        if (!in(stream, 0, 7) || !in(what, 0, 3)) {
            return -1;
        }
        String text = taken();
        StringBuilder held = new StringBuilder();
        try {
            for (int v = 0; v <= version(stream); v++) {
                int[] s = fold(stream, v);
                Text t = new Text(text);
                held.append(t.c(env("okhpv", s[0], s[1], s[2], s[3], v), 0) == 0 ? '.' : 'x');
                t.end();
            }
        } catch (Fault f) {
            return -100 - f.where;
        }
        String h = held.toString();
        int first = h.indexOf('x');
        int last = h.lastIndexOf('x');
        int longest = Arrays.stream(h.split("\\.")).mapToInt(String::length).max().orElse(0);
        int times = (int) h.chars().filter(c -> c == 'x').count();
        return new int[] {first < 0 ? -2 : first, times, longest, last < 0 ? -2 : last}[what];
    }

    long foresee(int stream, int what) {
        if (!in(stream, 0, 7) || !in(what, 0, 5)) {
            return Long.MIN_VALUE;
        }
        List<Line> lines;
        try {
            lines = lines(taken());
        } catch (Fault f) {
            return Long.MIN_VALUE + 100 + f.where;
        }
        byte[] before = write();
        int size = all.log.size();
        int through = 0;
        while (through < lines.size() && carry(lines.get(through).stream, lines.get(through)) > 0) {
            through++;
        }
        int[] s = fold(stream, 999);
        int[] told = {through, all.log.size() - size, s[0], s[1], s[2], s[3]};
        lay(before);
        return told[what];
    }

    int tally(int kind, int from, int to, int what) {
        if (!in(kind, 0, 8) || !in(what, 0, 2) || from < 1 || to > all.log.size() || from > to) {
            return VOID;
        }
        List<Integer> as = new ArrayList<>();
        for (Event e : all.log.subList(from - 1, to)) {
            if (e.kind.equals(KINDS.get(kind))) {
                as.add(read(e)[0]);
            }
        }
        int sum = as.stream().mapToInt(x -> x).sum();
        return what == 0 ? as.size() : what == 1 ? sum : as.stream().mapToInt(x -> x).max().orElse(VOID);
    }

    long digest(int position) {
        if (!in(position, 0, all.log.size())) {
            return -1;
        }
        long d = 7;
        for (int i = 1; i <= position; i++) {
            for (char c : textOf(i).toCharArray()) {
                d = (d * 31 + c) % (1L << 32);
            }
        }
        return d;
    }

    int image() {
        image = write();
        return all.log.size();
    }

    int back() {
        if (image == null) {
            return -5;
        }
        lay(image);
        return all.log.size();
    }

    int led(int what) {
        return in(what, 0, 6) ? all.led[what] : -1;
    }

    int count(int what) {
        if (!in(what, 0, 7)) {
            return -1;
        }
        return new int[] {
            all.log.size(), era(), tape.length(),
            (int) all.log.stream().mapToInt(e -> e.stream).distinct().count(),
            all.numbers.size(), all.snapshots.values().stream().mapToInt(List::size).sum(),
            (int) Arrays.stream(all.live).filter(x -> x != null).count(), all.every
        }[what];
    }

    private byte[] write() {
        try {
            ByteArrayOutputStream bytes = new ByteArrayOutputStream();
            ObjectOutputStream out = new ObjectOutputStream(bytes);
            out.writeObject(all);
            out.flush();
            return bytes.toByteArray();
        } catch (IOException e) {
            throw new IllegalStateException(e);
        }
    }

    private void lay(byte[] bytes) {
        try {
            all = (All) new ObjectInputStream(new ByteArrayInputStream(bytes)).readObject();
        } catch (IOException | ClassNotFoundException e) {
            throw new IllegalStateException(e);
        }
    }
}

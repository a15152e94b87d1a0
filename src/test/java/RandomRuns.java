import java.util.Random;

/** Random runs of calls, each answer held against the Model's. A fixed seed for each run: it can be run again. */
public final class RandomRuns {
    private static final int RUNS = 3000;

    private final Random random;
    private final Counted x = new Counted();
    private final Model m = new Model();
    private final StringBuilder told = new StringBuilder();
    private boolean wrong;

    private RandomRuns(long seed) {
        random = new Random(seed);
    }

    public static void main(String[] args) {
        int runs = args.length > 0 ? Integer.parseInt(args[0]) : RUNS;
        int from = args.length > 1 ? Integer.parseInt(args[1]) : 0;
        for (int seed = from; seed < from + runs; seed++) {
            RandomRuns one = new RandomRuns(seed);
            one.all(seed);
            if (one.wrong) {
                System.out.println("seed " + seed + ":\n" + one.told);
                System.exit(1);
            }
        }
        System.out.println(runs + " random runs answered as the model does");
    }

    /** Calls till the object has been called as often as the document lets it be. */
    private void all(int seed) {
        try {
            begin(seed);
            while (!wrong) {
                call();
            }
        } catch (Counted.Over over) {
            told.append("all calls\n");
        }
    }

    /** Most runs begin with open bins, some with a log that is nearly or quite full. */
    private void begin(int seed) {
        if (seed % 5 == 0) {
            return;
        }
        for (int s = 0; s < 3; s++) {
            typeWhole("open " + upTo(20));
            due("ask " + s, x.ask(s, -1, 0), m.ask(s, -1, 0));
            typeWhole("put " + upTo(200));
            due("ask " + s, x.ask(s, -1, s + 1), m.ask(s, -1, s + 1));
        }
        if (seed % 5 == 1) {
            typeWhole(any("on all do put 1", "on all do put (a)", "on all do send 0 to 1"));
            policies(3);
            typeWhole("put 3");
            due("ask 0", x.ask(0, -1, 0), m.ask(0, -1, 0));
            int n = any("", "x").isEmpty() ? 240 : 225 + upTo(10);
            due("run 3 " + n, x.run(3, n), m.run(3, n));
        }
    }

    private void due(String call, long got, long want) {
        told.append(call).append(" = ").append(got);
        if (got != want) {
            wrong = true;
            told.append(", due is ").append(want);
        }
        told.append('\n');
    }

    private int upTo(int n) {
        return random.nextInt(n + 1);
    }

    /** Mostly a number from least to most; now and then one about the edges or far away. */
    private int about(int least, int most) {
        switch (upTo(39)) {
            case 0:
                return least - 1;
            case 1:
                return most + 1;
            case 2:
                return Integer.MIN_VALUE;
            case 3:
                return Integer.MAX_VALUE;
            default:
                return most <= least ? least : least + upTo(most - least);
        }
    }

    private String any(String... texts) {
        return texts[upTo(texts.length - 1)];
    }

    private int slot() {
        return upTo(2) > 0 ? upTo(1) : about(0, 3);
    }

    private int stream() {
        return upTo(3) > 0 ? upTo(2) : upTo(7);
    }

    private String number(int most) {
        int n = upTo(3) == 0 ? upTo(most) : upTo(Math.min(most, 30));
        return upTo(30) == 0 ? any("1000", "9999", "00012", "0999", "12345", "8", "007") : "" + n;
    }

    private String c(String letters, int deep) {
        switch (upTo(deep > 3 ? 3 : 10)) {
            case 0:
                return number(9999);
            case 1:
            case 2:
            case 3:
                return "" + letters.charAt(upTo(letters.length() - 1));
            case 4:
                return "-" + c(letters, deep + 1);
            case 5:
                return "(" + c(letters, deep + 1) + ")";
            case 6:
                return "(" + c(letters, deep + 1) + any("<", "=", ">") + c(letters, deep + 2) + ")";
            default:
                return c(letters, deep + 1) + any("+", "-", "*", "/", "%") + c(letters, deep + 1);
        }
    }

    private String condition(String letters) {
        if (upTo(12) == 0) {
            String open = any("(((((", "((((((");
            return open + any("", "(", "-") + c(letters, 4) + ")))))))".substring(0, open.length());
        }
        if (upTo(12) == 0) {
            return any("ab", "1+ss", "kk", "(o)p", "a*9999*9999", "9999*9999*9999", "a/(b-b)", "a%0", "------a", "-------a", "-(-(-(a)))");
        }
        return upTo(1) == 0 ? c(letters, 2) : c(letters, 2) + any("<", "=", ">") + c(letters, 2);
    }

    private String command(boolean policy) {
        String n = policy && upTo(1) == 0 ? "(" + condition("abs") + ")" : number(999);
        switch (upTo(11)) {
            case 0:
            case 1:
                return "open " + n;
            case 2:
            case 3:
            case 4:
                return "put " + n;
            case 5:
                return "take " + n;
            case 6:
                return "hold " + n;
            case 7:
                return "free " + n;
            case 8:
                return "price " + n;
            case 9:
            case 10:
                return "send " + n + " to " + any("" + stream(), "0" + stream());
            default:
                return "close";
        }
    }

    private String kinds() {
        StringBuilder s = new StringBuilder(upTo(2) == 0 ? "all" : Model.KINDS.get(upTo(8)));
        while (upTo(2) > 0) {
            s.append('+').append(Model.KINDS.get(upTo(8)));
        }
        return s.toString().startsWith("all+") && upTo(5) > 0 ? "all" : s.toString();
    }

    private String lines() {
        StringBuilder s = new StringBuilder().append(stream()).append(':').append(command(false));
        for (int i = upTo(4); i > 0; i--) {
            s.append(';').append(stream()).append(':').append(command(false));
        }
        return s.toString();
    }

    private String projection() {
        return any("sum", "count", "most", "least", "first", "last") + " of " + kinds() + " by "
            + any("stream", "kind", "none") + (upTo(1) == 0 ? "" : " if " + condition("abs"));
    }

    private String policy() {
        return "on " + kinds() + (upTo(1) == 0 ? "" : " if " + condition("abs")) + " do " + command(true);
    }

    private void type(String text) {
        StringBuilder s = new StringBuilder(text);
        if (upTo(9) == 0 && s.length() > 0) {
            int i = upTo(s.length() - 1);
            char sign = any(" ", "a", "b", "s", "z", "+", "-", "(", ")", ":", ";", ",", "0", "9", "\u00ff", "A", "=")
                .charAt(0);
            switch (upTo(3)) {
                case 0:
                    s.deleteCharAt(i);
                    break;
                case 1:
                    s.insert(i, sign);
                    break;
                case 2:
                    s.setCharAt(i, sign);
                    break;
                default:
                    s.setLength(i);
                    break;
            }
        }
        typeWhole(s.toString());
    }

    private void typeWhole(String text) {
        told.append("type ").append(text).append('\n');
        for (int i = 0; i < text.length(); i++) {
            due("feed " + (int) text.charAt(i), x.feed(text.charAt(i)), m.feed(text.charAt(i)));
        }
    }

    private void call() {
        int version = upTo(5) > 0 ? -1 : upTo(12);
        int log = m.all.log.size();
        switch (upTo(37)) {
            case 0: {
                int letter = about(1, 255);
                due("feed " + letter, x.feed(letter), m.feed(letter));
                break;
            }
            case 1:
            case 2:
            case 3:
            case 4:
            case 5:
            case 6: {
                type(command(false));
                int s = upTo(20) == 0 ? about(0, 7) : stream();
                int v = upTo(3) == 0 && s >= 0 && s < 8 ? m.version(s) : version;
                int n = upTo(1) == 0 ? 0 : upTo(10) == 0 ? about(0, 999) : upTo(40);
                due("ask " + s + " " + v + " " + n, x.ask(s, v, n), m.ask(s, v, n));
                break;
            }
            case 7:
            case 8:
                type(lines());
                due("batch", x.batch(), m.batch());
                break;
            case 9:
                type(Model.KINDS.get(upTo(8)) + ":" + condition("abs") + "," + condition("abs"));
                due("upcast", x.upcast(), m.upcast());
                break;
            case 10:
                type(projection());
                projects(slot());
                break;
            case 11:
                if (upTo(1) == 0) {
                    type(projection());
                }
                rebuilds(slot());
                break;
            case 12:
                type(policy());
                policies(slot());
                break;
            case 13:
            case 14: {
                int p = slot();
                int n = upTo(9) == 0 ? about(1, 240) : 1 + upTo(9);
                due("run " + p + " " + n, x.run(p, n), m.run(p, n));
                break;
            }
            case 15:
            case 16:
            case 17:
                delivers(log);
                break;
            case 18: {
                int p = slot();
                due("swap " + p, x.swap(p), m.swap(p));
                break;
            }
            case 19: {
                int client = slot();
                int s = upTo(9) == 0 ? about(0, 7) : stream();
                due("see " + client + " " + s, x.see(client, s), m.see(client, s));
                break;
            }
            case 20:
                if (upTo(5) > 0) {
                    type(kinds());
                }
                due("harmless", x.harmless(), m.harmless());
                break;
            case 21:
            case 22: {
                type(command(false));
                int client = slot();
                int h = about(0, 1);
                due("attempt " + client + " " + h, x.attempt(client, h), m.attempt(client, h));
                break;
            }
            case 23: {
                type(condition("okhpv"));
                int s = upTo(9) == 0 ? about(0, 7) : stream();
                int what = about(0, 3);
                due("watch " + s + " " + what, x.watch(s, what), m.watch(s, what));
                break;
            }
            case 24: {
                type(lines());
                int s = upTo(9) == 0 ? about(0, 7) : stream();
                int what = about(0, 5);
                due("foresee " + s + " " + what, x.foresee(s, what), m.foresee(s, what));
                break;
            }
            case 25: {
                int n = upTo(3) == 0 ? about(0, 20) : upTo(4);
                due("every " + n, x.every(n), m.every(n));
                break;
            }
            case 26: {
                int s = about(0, 7);
                due("snap " + s, x.snap(s), m.snap(s));
                break;
            }
            case 27:
                if (upTo(2) == 0) {
                    due("image", x.image(), m.image());
                }
                break;
            case 28:
                if (upTo(3) == 0) {
                    due("back", x.back(), m.back());
                }
                break;
            default:
                questions(log);
                break;
        }
    }

    private void projects(int p) {
        due("project " + p, x.project(p), m.project(p));
    }

    private void rebuilds(int p) {
        due("rebuild " + p, x.rebuild(p), m.rebuild(p));
    }

    private void policies(int p) {
        due("policy " + p, x.policy(p), m.policy(p));
    }

    private void delivers(int log) {
        int p = slot();
        int which = about(0, 1);
        int from = upTo(2) == 0 ? 1 : about(1, Math.max(1, log));
        int n = upTo(1) == 0 ? about(1, 240) : 1 + upTo(9);
        due("deliver " + p + " " + which + " " + from + " " + n, x.deliver(p, which, from, n),
            m.deliver(p, which, from, n));
    }

    private void questions(int log) {
        int s = upTo(9) == 0 ? about(0, 7) : stream();
        int v = about(0, s >= 0 && s < 8 ? m.version(s) : 3);
        int position = about(1, Math.max(1, log));
        int what = about(0, 7);
        int p = slot();
        int which = about(0, 1);
        String told3 = " " + s + " " + v + " " + what;
        due("state" + told3, x.state(s, what), m.state(s, what));
        due("at" + told3, x.at(s, v, what), m.at(s, v, what));
        due("steps" + told3, x.steps(s, v), m.steps(s, v));
        due("snaps" + told3, x.snaps(s, what & 1), m.snaps(s, what & 1));
        due("find" + told3, x.find(s, v), m.find(s, v));
        due("event " + position + " " + what, x.event(position, what), m.event(position, what));
        int i = about(-1, 30);
        due("text " + position + " " + i, x.text(position, i), m.text(position, i));
        due("worth " + position, x.worth(position), m.worth(position));
        due("digest " + position, x.digest(position), m.digest(position));
        for (int w = 0; w < 5; w++) {
            due("look " + p + " " + which + " " + w, x.look(p, which, w), m.look(p, which, w));
        }
        int key = about(0, 8);
        due("row " + p + " " + which + " " + key, x.row(p, which, key), m.row(p, which, key));
        int to = about(1, Math.max(1, log));
        int kind = about(0, 8);
        int how = about(0, 2);
        due("tally " + kind + " " + position + " " + to + " " + how, x.tally(kind, position, to, how),
            m.tally(kind, position, to, how));
        due("policyOf " + p + " " + how, x.policyOf(p, how), m.policyOf(p, how));
        due("led " + what, x.led(what), m.led(what));
        due("count " + what, x.count(what), m.count(what));
    }
}

/** What the tests by hand share: texts are typed, answers are held against those that are due. */
abstract class ByHand {
    static final int BAD = -1, NOT = -2, FULL = -3, CONFLICT = -4, STATE = -5, VOID = -2000000000;
    static final int LEAST = Integer.MIN_VALUE, MOST = Integer.MAX_VALUE;

    /** Far numbers and near ones, none of which is from 0 to 240. */
    static final int[] OUTSIDE = {LEAST, LEAST + 1, -1000, -3, -2, 241, 1000, 10000, MOST - 1, MOST};

    /** MOST as a C. */
    static final String MOST_AS_C = "(9999*9999*21+9999*4790+8416)";

    static String about = "";
    private static int held = 0;
    private static int wrong = 0;
    private static int failed = 0;
    private static int passed = 0;

    static void due(String what, long got, long want) {
        held++;
        if (got != want) {
            wrong++;
            System.out.println(about + ": " + what + " answered " + got + ", due is " + want);
        }
    }

    static void same(String what, String got, String want) {
        held++;
        if (!got.equals(want)) {
            wrong++;
            System.out.println(about + ": " + what + "\n  is  " + got + "\n  due " + want);
        }
    }

    /** A test of its own for a sentence of the document. */
    static void edge(String sentence, Runnable test) {
        about = sentence;
        int before = wrong;
        int heldBefore = held;
        try {
            test.run();
        } catch (RuntimeException thrown) {
            wrong++;
            System.out.println(about + ": " + thrown);
        }
        if (held == heldBefore) {
            wrong++;
            System.out.println(about + ": nothing was held against an answer");
        }
        if (wrong == before) {
            passed++;
        } else {
            failed++;
        }
    }

    /** Tells how it went, and ends with exit code 1 if something was wrong. */
    static void end(String name) {
        System.out.println(name + ": " + held + " answers, " + wrong + " not as due");
        System.out.println(name + ": " + passed + " passed, " + failed + " failed");
        if (wrong != 0) {
            System.exit(1);
        }
    }

    static void type(Counted x, String text) {
        for (int i = 0; i < text.length(); i++) {
            if (x.feed(text.charAt(i)) < 1) {
                due("feed of " + text, x.count(2), -1);
            }
        }
    }

    static int ask(Counted x, int stream, String text) {
        return ask(x, stream, -1, 0, text);
    }

    static int ask(Counted x, int stream, int expected, int number, String text) {
        type(x, text);
        return x.ask(stream, expected, number);
    }

    static int batch(Counted x, String text) {
        type(x, text);
        return x.batch();
    }

    static int upcast(Counted x, String text) {
        type(x, text);
        return x.upcast();
    }

    static int project(Counted x, int p, String text) {
        type(x, text);
        return x.project(p);
    }

    static int rebuild(Counted x, int p, String text) {
        type(x, text);
        return x.rebuild(p);
    }

    static int policy(Counted x, int p, String text) {
        type(x, text);
        return x.policy(p);
    }

    static int harmless(Counted x, String text) {
        type(x, text);
        return x.harmless();
    }

    static int attempt(Counted x, int client, int harmless, String text) {
        type(x, text);
        return x.attempt(client, harmless);
    }

    static int watch(Counted x, int stream, int what, String text) {
        type(x, text);
        return x.watch(stream, what);
    }

    static long foresee(Counted x, int stream, int what, String text) {
        type(x, text);
        return x.foresee(stream, what);
    }

    static String textOf(Counted x, int position) {
        StringBuilder text = new StringBuilder();
        int length = x.text(position, -1);
        for (int i = 0; i < length; i++) {
            text.append((char) x.text(position, i));
        }
        return text.toString();
    }

    /** What a text C gives, by an upcaster of "priced" over an event with A 7 of STREAM 3; else what upcast() says. */
    static int c(String text) {
        Counted x = new Counted();
        ask(x, 3, "open 1");
        ask(x, 3, "price 7");
        int answer = upcast(x, "priced:" + text + ",0");
        return answer == 2 ? x.event(2, 6) : answer;
    }

    /** What a text C gives where a is what another one gave. */
    static int cOf(String a, String text) {
        Counted x = new Counted();
        ask(x, 3, "open 1");
        ask(x, 3, "price 7");
        upcast(x, "priced:" + a + ",0");
        int answer = upcast(x, "priced:" + text + ",0");
        return answer == 3 ? x.event(2, 6) : answer;
    }

    /** Bins 0 (price 7, stock 50) and 1 (price 3, empty) are open: 1 opened, 2 opened, 3 put. */
    static Counted two() {
        Counted x = new Counted();
        due("open 0", ask(x, 0, "open 7"), 1);
        due("open 1", ask(x, 1, "open 3"), 1);
        due("put 0", ask(x, 0, "put 50"), 2);
        return x;
    }

    /** A log of so many events, all but the first four by a policy that stands at 3; no number was used. */
    static Counted filled(int events) {
        Counted x = two();
        policy(x, 3, "on all do put 1");
        ask(x, 0, "put 1");
        due("run", x.run(3, events - 4), events - 4);
        due("events", x.count(0), events);
        return x;
    }
}

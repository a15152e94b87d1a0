/** The answers BAD, NOT, FULL, CONFLICT, STATE, VOID and REFUSED: when they come, in which order, and what stays. */
public final class EdgesOfAnswers extends ByHand {
    private static final int[] NO_STREAMS = {LEAST, -8, -1, 8, 9, 100, MOST};
    private static final int[] NO_SLOTS = {LEAST, -4, -1, 4, 5, 100, MOST};

    /** A call that is answered so that nothing changes. */
    interface Call {
        long on(Counted x);
    }

    public static void main(String[] args) {
        edge("the pictures tell objects apart", EdgesOfAnswers::picturesDiffer);
        edge("BAD changes nothing: feed", EdgesOfAnswers::badFeed);
        edge("BAD changes nothing: ask (THE TAPE stays)", EdgesOfAnswers::badAsk);
        edge("BAD, VOID change nothing: state, at, steps", EdgesOfAnswers::badStates);
        edge("BAD changes nothing: snap, snaps, every", EdgesOfAnswers::badSnaps);
        edge("BAD, VOID, NOT change nothing: event, text, find, worth", EdgesOfAnswers::badLog);
        edge("BAD changes nothing: project, rebuild, policy (THE TAPE stays)", EdgesOfAnswers::badTexts);
        edge("BAD changes nothing: deliver, swap", EdgesOfAnswers::badDeliver);
        edge("VOID changes nothing: look, row", EdgesOfAnswers::badLook);
        edge("BAD changes nothing: run, policyOf, see", EdgesOfAnswers::badRun);
        edge("BAD changes nothing: attempt, watch, foresee (THE TAPE stays)", EdgesOfAnswers::badAttempt);
        edge("VOID, BAD change nothing: tally, digest, led, count", EdgesOfAnswers::badTally);
        edge("STATE changes nothing", EdgesOfAnswers::stateAnswers);
        edge("a FAULT changes nothing but THE TAPE", EdgesOfAnswers::faults);
        edge("CONFLICT changes nothing, but what LED tells", EdgesOfAnswers::conflicts);
        edge("REFUSED changes nothing, but what LED tells: 21 to 25", EdgesOfAnswers::refused);
        edge("a BATCH that is REFUSED changes nothing, but what LED tells", EdgesOfAnswers::refusedBatch);
        edge("REPEATED: nothing is done", EdgesOfAnswers::repeated);
        edge("FULL changes nothing: THE LOG", EdgesOfAnswers::fullLog);
        edge("FULL changes nothing: THE TAPE", EdgesOfAnswers::fullTape);
        edge("FULL changes nothing: UPCASTERS", EdgesOfAnswers::fullUpcasters);
        edge("of several the one named first: BAD ahead of NOT, FULL, STATE", EdgesOfAnswers::badFirst);
        edge("What leaves THE TAPE as it is is looked at ahead of the text on it", EdgesOfAnswers::badAheadOfFaults);
        edge("The text on it is looked at ahead of what empties it", EdgesOfAnswers::faultsAheadOfTheRest);
        edge("asking changes nothing", EdgesOfAnswers::questions);
        end("EdgesOfAnswers");
    }

    /** An object in which there is something of all; THE TAPE is empty. */
    private static Counted rich() {
        Counted x = new Counted();
        batch(x, "0:open 7;1:open 3;0:put 50;1:put 5");
        ask(x, 0, -1, 5, "put 1");
        upcast(x, "put:a+1,b");
        x.snap(0);
        x.every(3);
        project(x, 0, "sum of put by stream");
        x.deliver(0, 0, 1, 3);
        x.rebuild(0);
        x.deliver(0, 1, 1, 4);
        policy(x, 1, "on put do price 9");
        ask(x, 0, "put 1");
        x.run(1, 1);
        harmless(x, "priced");
        x.see(0, 0);
        x.see(2, 1);
        x.image();
        ask(x, 0, "hold 1");
        ask(x, 0, "price 2");
        return x;
    }

    /** The same with a text on THE TAPE. */
    private static Counted loaded() {
        Counted x = rich();
        type(x, "0:put 2");
        return x;
    }

    private static void tell(StringBuilder told, long answer) {
        told.append(answer).append(' ');
    }

    /** All that can be asked of an object, and in the end what it does, told as a text. */
    private static String picture(Counted x) {
        StringBuilder told = new StringBuilder();
        for (int what = 0; what < 8; what++) {
            tell(told, x.count(what));
        }
        told.append("| ");
        for (int s = 0; s < 8; s++) {
            for (int what = 0; what < 5; what++) {
                tell(told, s < 3 || what == 4 ? x.state(s, what) : 0);
            }
            tell(told, x.snaps(s, 0));
        }
        told.append("| ");
        int events = x.count(0);
        tell(told, x.digest(events));
        tell(told, x.worth(events));
        for (int version = 0; version < 7; version++) {
            tell(told, x.steps(0, version));
        }
        for (int position = 3; position < 7; position++) {
            tell(told, x.event(position, 6));
        }
        told.append("| ");
        for (int p = 0; p < 4; p++) {
            for (int what = 0; what < 5; what++) {
                tell(told, x.look(p, 0, what));
                tell(told, what == 0 || p == 0 ? x.look(p, 1, what) : 0);
            }
            for (int what = 0; what < 3; what++) {
                tell(told, x.policyOf(p, what));
            }
        }
        tell(told, x.row(0, 0, 0));
        tell(told, x.row(0, 1, 0));
        tell(told, x.row(0, 1, 1));
        told.append("| ");
        deeds(x, told);
        return told.toString();
    }

    /** What can only be seen by what is done: the text on THE TAPE, NUMBERS, CLIENTS, the image. */
    private static void deeds(Counted x, StringBuilder told) {
        tell(told, x.foresee(0, 3));
        for (int client = 0; client < 4; client++) {
            tell(told, attempt(x, client, client / 2, "put 1"));
        }
        tell(told, x.run(1, 3));
        x.back();
        for (int client = 0; client < 3; client += 2) {
            tell(told, ask(x, client / 2, "price 1"));
            tell(told, attempt(x, client, 1, "put 1"));
        }
        tell(told, ask(x, 0, -1, 5, "put 1"));
        tell(told, x.back());
        tell(told, x.state(0, 1));
    }

    private static String ledOf(Counted x) {
        StringBuilder told = new StringBuilder();
        for (int what = 0; what < 7; what++) {
            tell(told, x.led(what));
        }
        return told.toString();
    }

    /** Calls that are all answered alike, with a text on THE TAPE, and nothing changes, not even what LED tells. */
    private static void stays(long answer, Call... calls) {
        Counted x = loaded();
        for (int i = 0; i < calls.length; i++) {
            due("call " + i, calls[i].on(x), answer);
        }
        same("LED", ledOf(x), ledOf(loaded()));
        same("the picture", picture(x), picture(loaded()));
    }

    /** A call that reads a text: nothing changes, but LED tells one more (-1: not even that). */
    private static void leaves(long answer, int led, String text, Call call) {
        Counted x = rich();
        int before = led < 0 ? 0 : x.led(led);
        type(x, text);
        due(text, call.on(x), answer);
        due("THE TAPE", x.count(2), 0);
        if (led < 0) {
            same("LED", ledOf(x), ledOf(rich()));
        } else {
            due("LED", x.led(led), before + 1);
            Counted y = rich();
            for (int what = 0; what < 7; what++) {
                due("LED " + what, x.led(what) - y.led(what), what == led ? 1 : 0);
            }
        }
        same("the picture behind " + text, picture(x), picture(rich()));
    }

    private static void differs(String what, Call call) {
        Counted x = loaded();
        call.on(x);
        due(what, picture(x).equals(picture(loaded())) ? 1 : 0, 0);
    }

    private static void picturesDiffer() {
        same("the same", picture(loaded()), picture(loaded()));
        differs("a byte", x -> x.feed('1'));
        differs("the text", x -> x.batch());
        differs("an asking", x -> x.run(1, 2));
        differs("snap", x -> x.snap(7));
        differs("every", x -> x.every(4));
        differs("rebuild", x -> x.rebuild(0) + x.batch());
        differs("deliver", x -> x.deliver(0, 0, 4, 1));
        differs("deliver beside", x -> x.deliver(0, 1, 5, 1));
        differs("swap", x -> x.swap(0));
        differs("see", x -> x.see(1, 0));
        differs("see", x -> x.see(0, 0));
        differs("image", x -> x.image());
        differs("back", x -> x.back());
    }

    // ---- answers that leave THE TAPE as it is

    private static void badFeed() {
        stays(BAD, x -> x.feed(0), x -> x.feed(-1), x -> x.feed(256), x -> x.feed(LEAST), x -> x.feed(MOST));
    }

    private static void badAsk() {
        for (int s : NO_STREAMS) {
            stays(BAD, x -> x.ask(s, -1, 0), x -> x.ask(s, 0, 5), x -> x.ask(s, -2, -1));
        }
        stays(BAD, x -> x.ask(0, -2, 0), x -> x.ask(0, LEAST, 0), x -> x.ask(7, -2, 999), x -> x.ask(0, -2, 5));
        stays(BAD, x -> x.ask(0, -1, -1), x -> x.ask(0, -1, 1000), x -> x.ask(0, 0, LEAST), x -> x.ask(0, 0, MOST));
    }

    private static void badStates() {
        for (int s : NO_STREAMS) {
            stays(VOID, x -> x.state(s, 0), x -> x.state(s, 4), x -> x.at(s, 0, 0));
            stays(BAD, x -> x.steps(s, 0), x -> x.steps(s, 1));
        }
        stays(VOID, x -> x.state(0, -1), x -> x.state(0, 5), x -> x.state(0, LEAST), x -> x.state(0, MOST));
        stays(VOID, x -> x.at(0, -1, 0), x -> x.at(0, 8, 0), x -> x.at(0, MOST, 0), x -> x.at(0, LEAST, 0));
        stays(VOID, x -> x.at(0, 0, -1), x -> x.at(0, 0, 4), x -> x.at(0, 0, MOST), x -> x.at(0, 0, LEAST));
        stays(BAD, x -> x.steps(0, -1), x -> x.steps(0, 8), x -> x.steps(0, MOST), x -> x.steps(0, LEAST));
        stays(BAD, x -> x.steps(7, 1), x -> x.steps(1, 4));
    }

    private static void badSnaps() {
        for (int s : NO_STREAMS) {
            stays(BAD, x -> x.snap(s), x -> x.snaps(s, 0), x -> x.snaps(s, 1));
        }
        stays(BAD, x -> x.snaps(0, -1), x -> x.snaps(0, 2), x -> x.snaps(0, LEAST), x -> x.snaps(0, MOST));
        stays(BAD, x -> x.every(-1), x -> x.every(21), x -> x.every(LEAST), x -> x.every(MOST));
    }

    private static void badLog() {
        stays(VOID, x -> x.event(0, 0), x -> x.event(-1, 0), x -> x.event(10, 0), x -> x.event(MOST, 7));
        stays(VOID, x -> x.event(1, -1), x -> x.event(1, 8), x -> x.event(1, LEAST), x -> x.event(1, MOST));
        stays(BAD, x -> x.text(0, 0), x -> x.text(10, -1), x -> x.text(LEAST, 0), x -> x.text(MOST, 0));
        stays(BAD, x -> x.text(1, -2), x -> x.text(1, LEAST), x -> x.text(10, 99));
        stays(NOT, x -> x.text(1, 23), x -> x.text(1, 100), x -> x.text(1, MOST));
        stays(BAD, x -> x.find(-1, 1), x -> x.find(8, 1), x -> x.find(0, 0), x -> x.find(0, 8), x -> x.find(7, 1));
        stays(Long.MIN_VALUE, x -> x.worth(-1), x -> x.worth(10), x -> x.worth(MOST), x -> x.worth(LEAST));
    }

    private static void badTexts() {
        for (int p : NO_SLOTS) {
            stays(BAD, x -> x.project(p), x -> x.rebuild(p), x -> x.policy(p));
        }
    }

    private static void badDeliver() {
        for (int p : NO_SLOTS) {
            stays(BAD, x -> x.deliver(p, 0, 1, 1), x -> x.deliver(p, 1, 4, 1), x -> x.swap(p));
        }
        stays(BAD, x -> x.deliver(0, -1, 4, 1), x -> x.deliver(0, 2, 4, 1), x -> x.deliver(0, MOST, 4, 1));
        stays(BAD, x -> x.deliver(0, 0, 0, 9), x -> x.deliver(0, 0, -1, 9), x -> x.deliver(0, 0, LEAST, 240));
        stays(BAD, x -> x.deliver(0, 0, 4, 0), x -> x.deliver(0, 0, 4, -1), x -> x.deliver(0, 0, 4, 241));
        stays(BAD, x -> x.deliver(0, 0, 1, LEAST), x -> x.deliver(0, 0, 1, MOST), x -> x.deliver(1, 1, 1, 0));
    }

    private static void badLook() {
        for (int p : NO_SLOTS) {
            stays(VOID, x -> x.look(p, 0, 0), x -> x.look(p, 1, 3), x -> x.row(p, 0, 0), x -> x.row(p, 1, 0));
        }
        stays(VOID, x -> x.look(0, -1, 0), x -> x.look(0, 2, 0), x -> x.row(0, -1, 0), x -> x.row(0, 2, 0));
        stays(VOID, x -> x.look(0, 0, -1), x -> x.look(0, 0, 5), x -> x.look(0, 0, LEAST), x -> x.look(0, 0, MOST));
        stays(VOID, x -> x.row(0, 0, -1), x -> x.row(0, 0, 9), x -> x.row(0, 0, LEAST), x -> x.row(0, 0, MOST));
        stays(VOID, x -> x.look(1, 0, 0), x -> x.look(1, 1, 0), x -> x.row(1, 0, 0), x -> x.row(0, 0, 1));
    }

    private static void badRun() {
        for (int p : NO_SLOTS) {
            stays(BAD, x -> x.run(p, 1), x -> x.policyOf(p, 0), x -> x.see(p, 0));
        }
        for (int s : NO_STREAMS) {
            stays(BAD, x -> x.see(0, s), x -> x.see(1, s));
        }
        stays(BAD, x -> x.run(1, 0), x -> x.run(1, -1), x -> x.run(1, 241), x -> x.run(1, LEAST), x -> x.run(1, MOST));
        stays(BAD, x -> x.policyOf(1, -1), x -> x.policyOf(1, 3), x -> x.policyOf(1, LEAST), x -> x.policyOf(1, MOST));
    }

    private static void badAttempt() {
        for (int client : NO_SLOTS) {
            stays(BAD, x -> x.attempt(client, 0), x -> x.attempt(client, 1), x -> x.attempt(client, 2));
        }
        for (int s : NO_STREAMS) {
            stays(BAD, x -> x.watch(s, 0), x -> x.watch(s, 3));
            stays(Long.MIN_VALUE, x -> x.foresee(s, 0), x -> x.foresee(s, 5));
        }
        stays(BAD, x -> x.attempt(0, -1), x -> x.attempt(0, 2), x -> x.attempt(0, LEAST), x -> x.attempt(0, MOST));
        stays(BAD, x -> x.watch(0, -1), x -> x.watch(0, 4), x -> x.watch(0, LEAST), x -> x.watch(0, MOST));
        stays(Long.MIN_VALUE, x -> x.foresee(0, -1), x -> x.foresee(0, 6), x -> x.foresee(0, LEAST),
            x -> x.foresee(0, MOST));
    }

    private static void badTally() {
        stays(VOID, x -> x.tally(-1, 1, 3, 0), x -> x.tally(9, 1, 3, 0), x -> x.tally(1, 0, 3, 0));
        stays(VOID, x -> x.tally(1, 1, 10, 0), x -> x.tally(1, 3, 2, 0), x -> x.tally(1, 1, 3, 3));
        stays(VOID, x -> x.tally(1, 1, 3, -1), x -> x.tally(8, 1, 3, 2), x -> x.tally(1, LEAST, MOST, 0));
        stays(BAD, x -> x.digest(-1), x -> x.digest(10), x -> x.digest(LEAST), x -> x.digest(MOST));
        stays(BAD, x -> x.led(-1), x -> x.led(7), x -> x.led(LEAST), x -> x.led(MOST));
        stays(BAD, x -> x.count(-1), x -> x.count(8), x -> x.count(LEAST), x -> x.count(MOST));
    }

    private static void stateAnswers() {
        for (int p = 1; p < 4; p++) {
            int slot = p;
            stays(STATE, x -> x.rebuild(slot), x -> x.swap(slot), x -> x.deliver(slot, 0, 1, 1),
                x -> x.deliver(slot, 1, 1, 240));
        }
        for (int p : new int[] {0, 2, 3}) {
            stays(STATE, x -> x.run(p, 1), x -> x.run(p, 240), x -> x.policyOf(p, 0), x -> x.policyOf(p, 2));
        }
        for (int client = 1; client < 4; client += 2) {
            int who = client;
            stays(STATE, x -> x.attempt(who, 0), x -> x.attempt(who, 1));
        }
        Counted x = rich();
        x.rebuild(0);
        x.deliver(0, 1, 1, 2);
        due("behind", x.swap(0), STATE);
        Counted y = rich();
        y.rebuild(0);
        y.deliver(0, 1, 1, 2);
        same("the picture", picture(x), picture(y));
        x = two();
        type(x, "put 1");
        due("no image", x.back(), STATE);
        due("THE TAPE stays", x.ask(0, -1, 0), 3);
    }

    // ---- answers that empty THE TAPE

    private static void faults() {
        leaves(-100 - 4, -1, "put 1000", x -> x.ask(0, -1, 9));
        leaves(-100, -1, "", x -> x.ask(0, -1, 9));
        leaves(-100 - 8, -1, "0:put 1;8:put 1", x -> x.batch());
        leaves(-100 - 6, -1, "put:a,k", x -> x.upcast());
        leaves(-100 - 13, -1, "sum of put by", x -> x.project(0));
        leaves(-100 - 13, -1, "sum of put by", x -> x.project(3));
        leaves(-100 - 13, -1, "sum of put by", x -> x.rebuild(0));
        leaves(-100, -1, "", x -> x.project(0));
        leaves(-100 - 10, -1, "on put do puts 1", x -> x.policy(1));
        leaves(-100 - 10, -1, "on put do puts 1", x -> x.policy(3));
        leaves(-100 - 4, -1, "put+gots", x -> x.harmless());
        leaves(-100, -1, "puts 1", x -> x.attempt(2, 0));
        leaves(-100 - 2, -1, "k>a", x -> x.watch(0, 0));
        leaves(Long.MIN_VALUE + 108, -1, "0:put 1;8:put 1", x -> x.foresee(0, 0));
    }

    private static void conflicts() {
        leaves(CONFLICT, 2, "put 1", x -> x.ask(0, 0, 9));
        leaves(CONFLICT, 2, "put 1", x -> x.ask(0, 5, 9));
        leaves(CONFLICT, 2, "put 1", x -> x.ask(0, 8, 0));
        leaves(CONFLICT, 2, "put 1", x -> x.attempt(0, 0));
        leaves(CONFLICT, 2, "put 1", x -> x.attempt(0, 1));
    }

    private static void refused() {
        leaves(-21, 3, "put 1", x -> x.ask(2, -1, 9));
        leaves(-22, 3, "open 1", x -> x.ask(0, -1, 9));
        leaves(-23, 3, "take 99", x -> x.ask(0, 7, 9));
        leaves(-23, 3, "hold 99", x -> x.ask(0, -1, 9));
        leaves(-23, 3, "free 2", x -> x.ask(0, -1, 9));
        leaves(-23, 3, "send 99 to 1", x -> x.ask(0, -1, 9));
        leaves(-24, 3, "close", x -> x.ask(0, -1, 9));
        leaves(-25, 3, "send 1 to 2", x -> x.ask(0, -1, 9));
        leaves(-25, 3, "send 1 to 0", x -> x.ask(0, -1, 9));
        leaves(-22, 3, "open 1", x -> x.attempt(2, 0));
        leaves(-23, 3, "take 99", x -> x.attempt(2, 1));
    }

    private static void refusedBatch() {
        leaves(-300, 3, "0:take 99", x -> x.batch());
        leaves(-301, 3, "0:put 1;2:put 1;2:put 1", x -> x.batch());
        leaves(-303, 3, "0:put 1;7:open 1;0:send 1 to 1;0:open 1", x -> x.batch());
    }

    private static void repeated() {
        leaves(3, 1, "put 1", x -> x.ask(0, -1, 5));
        leaves(3, 1, "open 1", x -> x.ask(0, -1, 5));
        leaves(3, 1, "put 1", x -> x.ask(7, 0, 5));
    }

    private static void fullLog() {
        Call[] calls = {x -> ask(x, 0, -1, 9, "put 1"), x -> ask(x, 2, -1, 9, "open 1"),
            x -> ask(x, 0, -1, 9, "send 1 to 1"), x -> attempt(x, 0, 0, "put 1"), x -> attempt(x, 0, 1, "put 1")};
        for (Call call : calls) {
            Counted x = filled(240);
            x.see(0, 0);
            due("FULL", call.on(x), FULL);
            Counted y = filled(240);
            y.see(0, 0);
            same("LED", ledOf(x), ledOf(y));
            same("the picture", picture(x), picture(y));
        }
        Counted x = filled(239);
        due("a BATCH", batch(x, "0:put 1;0:put 1"), -301);
        due("a POLICY", policy(x, 2, "on all do put 1"), 1);
        Counted y = filled(239);
        policy(y, 2, "on all do put 1");
        same("LED", ledOf(x), ledOf(y));
        same("the picture", picture(x), picture(y));
        x = filled(240);
        due("a POLICY", x.run(3, 240), 0);
        same("the picture", picture(x), picture(filled(240)));
    }

    private static void fullTape() {
        Counted x = two();
        Counted y = two();
        for (int i = 0; i < 160; i++) {
            x.feed('0' + i % 10);
            y.feed('0' + i % 10);
        }
        for (int i = 0; i < 20; i++) {
            due("FULL", x.feed(':'), FULL);
        }
        same("the picture", picture(x), picture(y));
    }

    private static void fullUpcasters() {
        Counted x = rich();
        upcast(x, "put:a+1,b");
        upcast(x, "put:a+1,b");
        due("FULL", upcast(x, "put:a+1,b"), FULL);
        due("FULL", upcast(x, "put:a,b"), FULL);
        Counted y = rich();
        upcast(y, "put:a+1,b");
        upcast(y, "put:a+1,b");
        same("LED", ledOf(x), ledOf(y));
        same("the picture", picture(x), picture(y));
    }

    // ---- which answer comes first

    private static void badFirst() {
        Counted x = two();
        due("NOT", x.text(1, 99), NOT);
        due("BAD ahead of NOT", x.text(4, 99), BAD);
        due("BAD ahead of STATE", x.rebuild(4), BAD);
        due("BAD ahead of STATE", x.deliver(0, 0, 0, 1), BAD);
        due("BAD ahead of STATE", x.deliver(0, 1, 1, 0), BAD);
        due("BAD ahead of STATE", x.deliver(0, 2, 1, 1), BAD);
        due("BAD ahead of STATE", x.swap(4), BAD);
        due("BAD ahead of STATE", x.run(0, 0), BAD);
        due("BAD ahead of STATE", x.run(0, 241), BAD);
        due("BAD ahead of STATE", x.policyOf(0, 3), BAD);
        due("BAD ahead of STATE", x.attempt(0, 2), BAD);
        due("STATE", x.attempt(0, 1), STATE);
        for (int i = 0; i < 160; i++) {
            x.feed('x');
        }
        due("FULL", x.feed('x'), FULL);
        due("BAD ahead of FULL", x.feed(0), BAD);
        due("BAD ahead of FULL", x.feed(256), BAD);
    }

    private static void badAheadOfFaults() {
        Counted x = rich();
        type(x, "x");
        due("ask", x.ask(8, -1, 0), BAD);
        due("ask", x.ask(0, -2, 0), BAD);
        due("ask", x.ask(0, -1, 1000), BAD);
        due("project", x.project(4), BAD);
        due("rebuild", x.rebuild(4), BAD);
        due("rebuild", x.rebuild(1), STATE);
        due("policy", x.policy(4), BAD);
        due("attempt", x.attempt(4, 0), BAD);
        due("attempt", x.attempt(0, 2), BAD);
        due("attempt", x.attempt(1, 0), STATE);
        due("watch", x.watch(8, 0), BAD);
        due("watch", x.watch(0, 4), BAD);
        due("foresee", x.foresee(8, 0), Long.MIN_VALUE);
        due("foresee", x.foresee(0, 6), Long.MIN_VALUE);
        due("THE TAPE stays", x.count(2), 1);
        due("the FAULT", x.watch(0, 3), -100);
    }

    private static void faultsAheadOfTheRest() {
        Counted x = rich();
        due("ahead of REPEATED", ask(x, 0, -1, 5, "put 1 "), -105);
        due("ahead of CONFLICT", ask(x, 0, 0, 9, "put 1 "), -105);
        due("ahead of REFUSED", ask(x, 2, -1, 9, "put 1 "), -105);
        due("ahead of CONFLICT", attempt(x, 0, 0, "put 1 "), -105);
        due("ahead of REFUSED", attempt(x, 2, 0, "take 99 "), -107);
        due("ahead of REFUSED", batch(x, "2:put 1;2:put 1;2:put"), -100 - 21);
        due("REFUSED", batch(x, "2:put 1;2:put 1;2:put 1"), -300);
        due("LED", x.led(1) + x.led(2), 0);
        due("LED", x.led(3), 1);
        x = filled(240);
        due("ahead of FULL", ask(x, 0, "put 1 "), -105);
        due("ahead of no room", batch(x, "0:put 1;"), -108);
        due("REPEATED ahead of CONFLICT", ask(rich(), 0, 0, 5, "put 1"), 3);
        due("CONFLICT ahead of REFUSED", ask(rich(), 0, 0, 9, "take 99"), CONFLICT);
        due("REFUSED ahead of FULL", ask(x, 0, "take 999"), -23);
    }

    private static void questions() {
        Counted x = loaded();
        x.state(0, 1);
        x.at(0, 3, 1);
        x.at(1, 0, 0);
        x.steps(0, 4);
        x.snaps(0, 1);
        x.event(3, 6);
        x.text(3, 2);
        x.find(0, 2);
        x.worth(2);
        x.look(0, 0, 3);
        x.look(0, 1, 3);
        x.row(0, 0, 0);
        x.policyOf(1, 0);
        x.tally(1, 1, 5, 1);
        x.digest(3);
        x.led(0);
        x.count(0);
        same("LED", ledOf(x), ledOf(loaded()));
        same("the picture", picture(x), picture(loaded()));
        leaves(2, -1, "k>50", y -> y.watch(0, 0));
        leaves(1, -1, "0:put 1;0:take 99", y -> y.foresee(0, 0));
    }
}

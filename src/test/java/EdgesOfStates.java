/** Blocks 1 and 2 of the terms: THE LOG, STATES, SNAPSHOTS, COMMANDS, BATCHES. Each sentence with an edge has its test. */
public final class EdgesOfStates extends ByHand {
    private static final String[] ALL_BUT_OPEN =
        {"put 0", "put 1", "take 0", "take 1", "hold 0", "free 0", "price 0", "price 1", "send 0 to 1", "send 0 to 0",
            "send 0 to 6", "close"};

    public static void main(String[] args) {
        edge("A new object: an empty log", EdgesOfStates::newObject);
        edge("STREAMS 0 .. 7 are of bins", EdgesOfStates::eightStreams);
        edge("THE LOG has 240 EVENTS at most: ask", EdgesOfStates::logFullForAsk);
        edge("THE LOG has 240 EVENTS at most: a send needs two", EdgesOfStates::logFullForSend);
        edge("THE LOG has 240 EVENTS at most: batch", EdgesOfStates::logFullForBatch);
        edge("VERSION: 1, 2, .. in its STREAM; 0: none", EdgesOfStates::versions);
        edge("OPEN: 0 not yet, 1, 2 closed", EdgesOfStates::openCells);
        edge("An EVENT, READ, changes it", EdgesOfStates::whatEventsChange);
        edge("ints that wrap: STOCK", EdgesOfStates::stockWraps);
        edge("ints that wrap: HELD, PRICE", EdgesOfStates::heldAndPriceWrap);
        edge("The STATE at a VERSION: by its EVENTS up to that one", EdgesOfStates::stateAtVersions);
        edge("the latest 4 SNAPSHOTS of a STREAM are kept", EdgesOfStates::fourSnapshots);
        edge("the latest 4 are kept: each with its VERSION and its ERA", EdgesOfStates::fourSnapshotsOfEras);
        edge("GOOD: its ERA is that of now", EdgesOfStates::goodSnapshots);
        edge("STEPS: behind the latest VERSION up to it that has a GOOD SNAPSHOT", EdgesOfStates::stepsBehindGood);
        edge("STEPS: or from the first on", EdgesOfStates::stepsFromFirst);
        edge("snap: again at the same VERSION: another one", EdgesOfStates::sameVersionAgain);
        edge("snap: a STREAM without EVENTS", EdgesOfStates::snapOfNone);
        edge("EVERY (0 .. 20; 0 at first: never)", EdgesOfStates::everyNumbers);
        edge("whenever a STREAM's VERSION can be divided by it as an EVENT comes", EdgesOfStates::everyDivides);
        edge("as an EVENT comes: of a send, a BATCH, a POLICY, a CLIENT", EdgesOfStates::everyEvent);
        edge("n 0 .. 999", EdgesOfStates::amounts);
        edge("open: OPEN is 0 (else REFUSED 22)", EdgesOfStates::refused22);
        edge("All others: OPEN is 1 (else REFUSED 21)", EdgesOfStates::refused21);
        edge("take: n is not above STOCK less HELD (else REFUSED 23)", EdgesOfStates::refused23Take);
        edge("hold: likewise", EdgesOfStates::refused23Hold);
        edge("free: n is not above HELD (else REFUSED 23)", EdgesOfStates::refused23Free);
        edge("send: S is another STREAM, whose OPEN is 1 (else REFUSED 25)", EdgesOfStates::refused25);
        edge("send: then as take", EdgesOfStates::refused23Send);
        edge("send: sent n, B S; and in S got n, B the STREAM", EdgesOfStates::sendMakesTwo);
        edge("close: STOCK is 0 (else REFUSED 24)", EdgesOfStates::refused24);
        edge("A is n (0 by close), B is 0 where nothing is told", EdgesOfStates::whatCommandsWrite);
        edge("EXPECTED: a VERSION (or -1: any): if the STREAM's is another one: CONFLICT", EdgesOfStates::expected);
        edge("CONFLICT ahead of REFUSED", EdgesOfStates::conflictAheadOfRefused);
        edge("NUMBER of an asking 1 .. 999 (0: none)", EdgesOfStates::numbers);
        edge("one by which EVENTS came before is REPEATED: the answer is what it was", EdgesOfStates::repeated);
        edge("REPEATED goes by the number alone, whatever the STREAM", EdgesOfStates::repeatedElsewhere);
        edge("a NUMBER by which no EVENTS came may come again", EdgesOfStates::numbersWithoutEvents);
        edge("REPEATED with a full LOG", EdgesOfStates::repeatedWhenFull);
        edge("LINES, one or more", EdgesOfStates::lines);
        edge("They are ASKED one behind the other", EdgesOfStates::linesBehindOneAnother);
        edge("if one is REFUSED, none has been", EdgesOfStates::refusedLine);
        edge("if one would make THE LOG too long, none has been", EdgesOfStates::lineWithoutRoom);
        edge("led(3): a BATCH that is REFUSED counts 1, one without room not", EdgesOfStates::ledOfBatches);
        edge("event: (1 .. THE LOG's end), what 0 .. 7", EdgesOfStates::eventEdges);
        edge("text: NOT: it has fewer; i -1: how many", EdgesOfStates::textEdges);
        edge("TEXT of an EVENT", EdgesOfStates::texts);
        edge("find: the POSITION of a STREAM's EVENT of a VERSION", EdgesOfStates::findEdges);
        edge("worth: of all STREAMS that are open at a POSITION (0 to THE LOG's end)", EdgesOfStates::worthEdges);
        edge("worth() multiplies as longs; a long; wraps", EdgesOfStates::worthAsLong);
        end("EdgesOfStates");
    }

    private static String stateOf(Counted x, int stream) {
        StringBuilder told = new StringBuilder();
        for (int what = 0; what < 5; what++) {
            told.append(what == 0 ? "" : " ").append(x.state(stream, what));
        }
        return told.toString();
    }

    private static String eventOf(Counted x, int position) {
        StringBuilder told = new StringBuilder();
        for (int what = 0; what < 6; what++) {
            told.append(what == 0 ? "" : " ").append(x.event(position, what));
        }
        return told.toString();
    }

    // ---- the log

    private static void newObject() {
        Counted x = new Counted();
        for (int what = 0; what < 8; what++) {
            due("count", x.count(what), 0);
        }
        for (int what = 0; what < 7; what++) {
            due("led", x.led(what), 0);
        }
        for (int s = 0; s < 8; s++) {
            same("state", stateOf(x, s), "0 0 0 0 0");
            due("at", x.at(s, 0, 0), 0);
            due("steps", x.steps(s, 0), 0);
            due("snaps", x.snaps(s, 0), 0);
            due("find", x.find(s, 1), BAD);
            due("see nothing yet", s < 4 ? x.attempt(s, 0) : STATE, STATE);
            due("no policy", s < 4 ? x.policyOf(s, 0) : STATE, STATE);
            due("no projection", s < 4 ? x.look(s, 0, 0) : VOID, VOID);
        }
        due("every", x.every(0), 0);
        due("worth", x.worth(0), 0);
        due("worth", x.worth(1), Long.MIN_VALUE);
        due("digest", x.digest(0), 7);
        due("digest", x.digest(1), BAD);
        due("event", x.event(1, 0), VOID);
        due("text", x.text(1, -1), BAD);
        due("tally", x.tally(0, 1, 1, 0), VOID);
        due("no image", x.back(), STATE);
        due("an image of nothing", x.image(), 0);
        due("is one", x.back(), 0);
    }

    private static void eightStreams() {
        Counted x = new Counted();
        for (int s = 0; s < 8; s++) {
            due("open", ask(x, s, "open " + (s + 10)), 1);
            due("put", ask(x, s, "put " + (s + 1)), 2);
            due("with an EVENT", x.count(3), s + 1);
        }
        for (int s = 0; s < 8; s++) {
            same("state of " + s, stateOf(x, s), "1 " + (s + 1) + " 0 " + (s + 10) + " 2");
            due("find", x.find(s, 1), s * 2 + 1);
            due("find", x.find(s, 2), s * 2 + 2);
            due("snap", x.snap(s), 2);
            due("steps", x.steps(s, 2), 0);
            due("see", x.see(s % 4, s), 2);
        }
        due("from the last to the first", ask(x, 7, "send 8 to 0"), 3);
        due("from the first to the last", ask(x, 0, "send 9 to 7"), 4);
        same("first", stateOf(x, 0), "1 0 0 10 4");
        same("last", stateOf(x, 7), "1 9 0 17 4");
    }

    private static void logFullForAsk() {
        Counted x = filled(239);
        due("the 240th", ask(x, 0, "put 1"), 239);
        due("240", x.count(0), 240);
        due("it is there", x.event(240, 1), 239);
        due("no 241st", ask(x, 0, "put 1"), FULL);
        due("no 241st", ask(x, 2, "open 1"), FULL);
        due("240", x.count(0), 240);
        due("no 241st", x.event(241, 0), VOID);
        due("version", x.state(0, 4), 239);
        due("stock", x.state(0, 1), 50 + 237);
    }

    private static void logFullForSend() {
        Counted x = filled(238);
        due("two are left", ask(x, 0, "send 1 to 1"), 238);
        due("240", x.count(0), 240);
        x = filled(239);
        due("one is left", ask(x, 0, "send 1 to 1"), FULL);
        due("neither has come", x.count(0), 239);
        due("neither has come", x.state(1, 1), 0);
        due("one is left", ask(x, 0, "take 1"), 239);
        due("none is left", ask(x, 0, "send 1 to 1"), FULL);
    }

    private static void logFullForBatch() {
        Counted x = filled(236);
        due("one too many", batch(x, "0:put 1;0:put 1;0:put 1;0:put 1;0:put 1"), -304);
        due("a send too many", batch(x, "0:put 1;0:send 1 to 1;0:send 1 to 1"), -302);
        due("236", x.count(0), 236);
        due("just enough", batch(x, "0:send 1 to 1;0:put 1;0:put 1"), 4);
        due("240", x.count(0), 240);
        due("none", batch(x, "0:put 1"), -300);
    }

    private static void versions() {
        Counted x = two();
        due("0: none", x.state(2, 4), 0);
        due("0: none", x.see(0, 2), 0);
        due("0: none", x.snap(2), 0);
        due("1", ask(x, 2, 0, 0, "open 1"), 1);
        due("its own alone", ask(x, 1, "put 1"), 2);
        due("2", ask(x, 2, "put 1"), 2);
        due("its own alone", x.state(0, 4), 2);
        int[] versions = {1, 1, 2, 1, 2, 2};
        for (int i = 0; i < versions.length; i++) {
            due("POSITION " + (i + 1), x.event(i + 1, 1), versions[i]);
        }
    }

    // ---- states

    private static void openCells() {
        Counted x = new Counted();
        due("not yet", x.state(3, 0), 0);
        ask(x, 3, "open 0");
        due("open", x.state(3, 0), 1);
        ask(x, 3, "close");
        due("closed", x.state(3, 0), 2);
        due("at 0", x.at(3, 0, 0), 0);
        due("at 1", x.at(3, 1, 0), 1);
        due("at 2", x.at(3, 2, 0), 2);
    }

    private static void whatEventsChange() {
        Counted x = new Counted();
        ask(x, 1, "open 5");
        due("open", ask(x, 0, "open 8"), 1);
        same("opened", stateOf(x, 0), "1 0 0 8 1");
        ask(x, 0, "put 100");
        same("put", stateOf(x, 0), "1 100 0 8 2");
        ask(x, 0, "take 30");
        same("taken", stateOf(x, 0), "1 70 0 8 3");
        ask(x, 0, "hold 20");
        same("held", stateOf(x, 0), "1 70 20 8 4");
        ask(x, 0, "free 5");
        same("freed", stateOf(x, 0), "1 70 15 8 5");
        ask(x, 0, "price 999");
        same("priced", stateOf(x, 0), "1 70 15 999 6");
        ask(x, 0, "send 55 to 1");
        same("sent", stateOf(x, 0), "1 15 15 999 7");
        same("got", stateOf(x, 1), "1 55 0 5 2");
        ask(x, 0, "free 15");
        ask(x, 0, "take 15");
        ask(x, 0, "close");
        same("closed", stateOf(x, 0), "2 0 0 999 10");
        same("the other", stateOf(x, 1), "1 55 0 5 2");
        for (String kind : EdgesOfTexts.KIND_WORDS) {
            upcast(x, kind + ":a+1000,b+77");
        }
        same("READ", stateOf(x, 0), "2 " + (1100 - 1030 - 1055 - 1015) + " " + (1020 - 1005 - 1015) + " 1999 10");
        same("READ", stateOf(x, 1), "1 1055 0 1005 2");
    }

    private static void stockWraps() {
        Counted x = two();
        upcast(x, "put:" + MOST_AS_C + ",b");
        due("most", x.state(0, 1), MOST);
        ask(x, 0, "put 1");
        due("and 1", x.state(0, 1), LEAST);
        due("at it", x.at(0, 3, 1), LEAST);
        due("at the one before", x.at(0, 2, 1), MOST);
        x = two();
        ask(x, 0, "take 1");
        ask(x, 0, "take 2");
        upcast(x, "taken:(a=1)*" + MOST_AS_C + "+(a=2)*60,b");
        due("less most", x.at(0, 3, 1), 50 - MOST);
        due("and 60 less", x.state(0, 1), 50 - MOST - 60);
        x = two();
        ask(x, 0, "send 1 to 1");
        ask(x, 0, "send 2 to 1");
        upcast(x, "sent:(a=1)*" + MOST_AS_C + "+(a=2)*60,b");
        upcast(x, "got:(a=1)*" + MOST_AS_C + "+(a=2)*60,b");
        due("sent", x.state(0, 1), 50 - MOST - 60);
        due("got", x.state(1, 1), MOST + 60);
    }

    private static void heldAndPriceWrap() {
        Counted x = two();
        ask(x, 0, "hold 1");
        ask(x, 0, "hold 2");
        ask(x, 0, "free 1");
        ask(x, 0, "free 2");
        upcast(x, "held:(a=1)*" + MOST_AS_C + "+(a=2)*5,b");
        due("held most", x.at(0, 3, 2), MOST);
        due("and 5", x.at(0, 4, 2), MOST + 5);
        due("less 3", x.at(0, 6, 2), MOST + 5 - 3);
        upcast(x, "held:9,b");
        upcast(x, "freed:(a=1)*" + MOST_AS_C + "+(a=2)*60,b");
        due("less most", x.at(0, 5, 2), 18 - MOST);
        due("and 60 less", x.state(0, 2), 18 - MOST - 60);
        ask(x, 0, "price 1");
        upcast(x, "priced:" + MOST_AS_C + "+1,b");
        due("least", x.state(0, 3), LEAST);
        upcast(x, "opened:-" + MOST_AS_C + ",b");
        due("less most", x.at(0, 1, 3), -MOST);
    }

    private static void stateAtVersions() {
        Counted x = two();
        ask(x, 1, "put 9");
        ask(x, 0, "take 20");
        ask(x, 0, "price 2");
        int[][] wants = {{0, 0, 0, 0}, {1, 0, 0, 7}, {1, 50, 0, 7}, {1, 30, 0, 7}, {1, 30, 0, 2}};
        for (int version = 0; version <= 4; version++) {
            for (int what = 0; what < 4; what++) {
                due("at " + version + " " + what, x.at(0, version, what), wants[version][what]);
            }
        }
        due("no such VERSION", x.at(0, 5, 0), VOID);
        due("no such VERSION", x.at(0, -1, 0), VOID);
        due("no VERSION here", x.at(0, 4, 4), VOID);
        due("of a STREAM without EVENTS", x.at(7, 0, 3), 0);
        due("of a STREAM without EVENTS", x.at(7, 1, 3), VOID);
        upcast(x, "taken:a*2,b");
        due("READ now", x.at(0, 2, 1), 50);
        due("READ now", x.at(0, 3, 1), 10);
        due("an old SNAPSHOT does not count", x.at(0, 4, 1), 10);
    }

    // ---- snapshots

    private static void fourSnapshots() {
        Counted x = two();
        for (int i = 1; i <= 4; i++) {
            ask(x, 0, "put 1");
            due("snap", x.snap(0), 2 + i);
            due("kept", x.snaps(0, 0), i);
            due("in all", x.count(5), i);
        }
        due("at 3", x.steps(0, 3), 0);
        ask(x, 0, "put 1");
        due("the fifth", x.snap(0), 7);
        due("kept", x.snaps(0, 0), 4);
        due("in all", x.count(5), 4);
        due("the one at 3 is gone", x.steps(0, 3), 3);
        for (int version = 4; version <= 7; version++) {
            due("the one at " + version, x.steps(0, version), 0);
        }
        for (int i = 0; i < 5; i++) {
            due("another STREAM's", x.snap(1), 1);
        }
        due("4 of each", x.count(5), 8);
        due("this one's stay", x.steps(0, 4), 0);
        for (int s = 2; s < 8; s++) {
            for (int i = 0; i < 5; i++) {
                x.snap(s);
            }
        }
        due("4 of each", x.count(5), 32);
    }

    private static void fourSnapshotsOfEras() {
        Counted x = two();
        x.snap(0);
        ask(x, 0, "put 1");
        x.snap(0);
        upcast(x, "got:a,b");
        due("none good", x.snaps(0, 1), 0);
        for (int i = 1; i <= 4; i++) {
            ask(x, 0, "put 1");
            x.snap(0);
            due("good", x.snaps(0, 1), i);
            due("kept", x.snaps(0, 0), Math.min(4, 2 + i));
        }
        due("the first good one", x.steps(0, 4), 0);
        due("none up to it", x.steps(0, 3), 3);
        ask(x, 1, "put 1");
        for (int i = 0; i < 6; i++) {
            ask(x, 1, "put 1");
            ask(x, 0, "put 1");
        }
        x.snap(1);
        due("another STREAM's does not count", x.steps(0, 13), 6);
        due("another STREAM's does not count", x.steps(0, 12), 5);
        due("its own", x.steps(1, 8), 0);
        due("its own alone", x.steps(1, 7), 7);
    }

    private static void goodSnapshots() {
        Counted x = two();
        x.snap(0);
        x.snap(0);
        due("good", x.snaps(0, 1), 2);
        upcast(x, "freed:a,b");
        due("none is good", x.snaps(0, 1), 0);
        due("but kept", x.snaps(0, 0), 2);
        due("but kept", x.count(5), 2);
        x.snap(0);
        due("one is good", x.snaps(0, 1), 1);
        upcast(x, "freed:a");
        due("a FAULT brings no ERA", x.snaps(0, 1), 1);
        x.image();
        upcast(x, "freed:a,b");
        due("none is good", x.snaps(0, 1), 0);
        x.back();
        due("the ERA is back", x.snaps(0, 1), 1);
    }

    private static void stepsBehindGood() {
        Counted x = two();
        x.snap(0);
        ask(x, 0, "put 1");
        ask(x, 0, "put 1");
        x.snap(0);
        ask(x, 0, "put 1");
        int[] wants = {0, 1, 0, 1, 0, 1};
        for (int version = 0; version <= 5; version++) {
            due("to " + version, x.steps(0, version), wants[version]);
        }
        due("bad", x.steps(0, 6), BAD);
        due("bad", x.steps(0, -1), BAD);
        due("another STREAM", x.steps(1, 1), 1);
        upcast(x, "put:a,b");
        x.snap(0);
        due("behind the good one", x.steps(0, 5), 0);
        due("none good up to it", x.steps(0, 4), 4);
        due("none good up to it", x.steps(0, 2), 2);
    }

    private static void stepsFromFirst() {
        Counted x = two();
        due("to 0", x.steps(0, 0), 0);
        due("to 1", x.steps(0, 1), 1);
        due("to 2", x.steps(0, 2), 2);
        due("without EVENTS", x.steps(7, 0), 0);
        due("without EVENTS", x.steps(7, 1), BAD);
        x.snap(0);
        upcast(x, "put:a,b");
        due("an old one is not good", x.steps(0, 2), 2);
    }

    private static void sameVersionAgain() {
        Counted x = two();
        x.snap(0);
        ask(x, 0, "put 1");
        for (int i = 1; i <= 3; i++) {
            due("again", x.snap(0), 3);
            due("another one", x.snaps(0, 0), 1 + i);
        }
        due("the one at 2 is kept", x.steps(0, 2), 0);
        due("again", x.snap(0), 3);
        due("the one at 2 is not", x.steps(0, 2), 2);
        due("at 3", x.steps(0, 3), 0);
        due("four", x.snaps(0, 0), 4);
    }

    private static void snapOfNone() {
        Counted x = new Counted();
        due("at 0", x.snap(7), 0);
        due("one", x.snaps(7, 0), 1);
        due("good", x.snaps(7, 1), 1);
        due("in all", x.count(5), 1);
        due("steps", x.steps(7, 0), 0);
        ask(x, 7, "open 1");
        due("steps", x.steps(7, 1), 1);
        due("still no EVENT by it", x.count(0), 1);
    }

    private static void everyNumbers() {
        Counted x = two();
        due("0 at first", x.count(7), 0);
        due("no SNAPSHOT came", x.count(5), 0);
        int was = 0;
        for (int n = 0; n <= 20; n++) {
            due("what it was", x.every(n), was);
            due("what it is", x.count(7), n);
            was = n;
        }
        due("21", x.every(21), BAD);
        due("-1", x.every(-1), BAD);
        for (int n : OUTSIDE) {
            due("" + n, x.every(n), BAD);
        }
        due("as it was", x.every(0), 20);
        ask(x, 0, "put 1");
        due("0: never", x.count(5), 0);
    }

    private static void everyDivides() {
        for (int n = 1; n <= 20; n++) {
            Counted x = new Counted();
            ask(x, 0, "open 1");
            x.every(n);
            policy(x, 0, "on all do put 1");
            ask(x, 0, "put 1");
            due("1", x.snaps(0, 0), n <= 2 ? 1 : 0);
            int made = n <= 2 ? 1 : 0;
            for (int version = 3; version <= 42; version++) {
                x.run(0, 1);
                made += version % n == 0 ? 1 : 0;
                if (version > 38) {
                    due("by " + n + " at " + version, x.snaps(0, 0), Math.min(4, made));
                    due("by " + n + " at " + version, x.steps(0, version), version % n);
                }
            }
            due("EVENTS", x.count(0), 42);
        }
    }

    private static void everyEvent() {
        Counted x = two();
        x.every(1);
        ask(x, 0, "put 1");
        due("ask", x.snaps(0, 0), 1);
        ask(x, 0, "send 1 to 1");
        due("sent", x.snaps(0, 0), 2);
        due("got", x.snaps(1, 0), 1);
        batch(x, "1:put 1;1:put 1");
        due("batch", x.snaps(1, 0), 3);
        policy(x, 0, "on put do price 4");
        ask(x, 2, "open 1");
        ask(x, 2, "put 1");
        due("2", x.snaps(2, 0), 2);
        x.run(0, 9);
        due("a policy", x.snaps(2, 0), 3);
        x.see(0, 2);
        attempt(x, 0, 0, "put 1");
        due("a client", x.snaps(2, 0), 4);
        due("all", x.count(5), 9);
        due("refused", ask(x, 1, "take 999"), -23);
        due("refused", batch(x, "1:put 1;1:take 999"), -301);
        foresee(x, 1, 0, "1:put 1;1:put 1");
        due("none by these", x.count(5), 9);
        x.every(4);
        ask(x, 0, "put 1");
        due("5 can't be divided by 4", x.snaps(0, 0), 2);
        ask(x, 3, "open 1");
        due("1 can't be divided by 4", x.snaps(3, 0), 0);
    }

    // ---- commands

    private static void amounts() {
        Counted x = new Counted();
        due("open 0", ask(x, 0, "open 0"), 1);
        due("open 999", ask(x, 1, "open 999"), 1);
        due("put 0", ask(x, 0, "put 0"), 2);
        due("put 999", ask(x, 0, "put 999"), 3);
        due("take 0", ask(x, 0, "take 0"), 4);
        due("hold 0", ask(x, 0, "hold 0"), 5);
        due("free 0", ask(x, 0, "free 0"), 6);
        due("hold 999", ask(x, 0, "hold 999"), 7);
        due("free 999", ask(x, 0, "free 999"), 8);
        due("price 0", ask(x, 0, "price 0"), 9);
        due("price 999", ask(x, 0, "price 999"), 10);
        due("send 0", ask(x, 0, "send 0 to 1"), 11);
        due("send 999", ask(x, 0, "send 999 to 1"), 12);
        due("take 999", ask(x, 1, "take 999"), 4);
        int[] as = {0, 999, 0, 999, 0, 0, 0, 999, 999, 0, 999, 0, 0, 999, 999, 999};
        for (int i = 0; i < as.length; i++) {
            due("A of " + (i + 1), x.event(i + 1, 4), as[i]);
        }
        due("1000", ask(x, 0, "put 1000"), -104);
        due("none by it", x.count(0), as.length);
    }

    private static void refused22() {
        Counted x = two();
        due("open", ask(x, 0, "open 7"), -22);
        due("another price", ask(x, 0, "open 0"), -22);
        ask(x, 1, "close");
        due("closed", ask(x, 1, "open 3"), -22);
        due("not yet", ask(x, 2, "open 3"), 1);
        due("now", ask(x, 2, "open 3"), -22);
        due("nothing came", x.count(0), 5);
        due("REFUSED", x.led(3), 4);
        due("the price stays", x.state(0, 3), 7);
    }

    private static void refused21() {
        for (String command : ALL_BUT_OPEN) {
            Counted x = two();
            ask(x, 1, "close");
            due("not yet open: " + command, ask(x, 6, command), -21);
            due("closed: " + command, ask(x, 1, command), -21);
            due("nothing came", x.count(0), 4);
            due("REFUSED", x.led(3), 2);
        }
        due("ahead of 23", ask(two(), 2, "take 999"), -21);
        due("ahead of 23", ask(two(), 2, "free 999"), -21);
        due("ahead of 25", ask(two(), 2, "send 1 to 2"), -21);
    }

    private static void refused23Take() {
        Counted x = two();
        due("51", ask(x, 0, "take 51"), -23);
        due("50", ask(x, 0, "take 50"), 3);
        due("1 of none", ask(x, 0, "take 1"), -23);
        due("0 of none", ask(x, 0, "take 0"), 4);
        x = two();
        ask(x, 0, "hold 20");
        due("31 of 50 less 20", ask(x, 0, "take 31"), -23);
        due("30 of 50 less 20", ask(x, 0, "take 30"), 4);
        due("1 of 20 less 20", ask(x, 0, "take 1"), -23);
        due("0 of 20 less 20", ask(x, 0, "take 0"), 5);
        upcast(x, "put:a-1,b");
        due("0 of 19 less 20", ask(x, 0, "take 0"), -23);
        ask(x, 0, "put 1");
        due("0 of 20 less 20", ask(x, 0, "take 0"), 7);
        due("999 is above", ask(x, 0, "take 999"), -23);
    }

    private static void refused23Hold() {
        Counted x = two();
        due("51", ask(x, 0, "hold 51"), -23);
        due("20", ask(x, 0, "hold 20"), 3);
        due("31 of 50 less 20", ask(x, 0, "hold 31"), -23);
        due("30 of 50 less 20", ask(x, 0, "hold 30"), 4);
        due("1 of 50 less 50", ask(x, 0, "hold 1"), -23);
        due("0 of 50 less 50", ask(x, 0, "hold 0"), 5);
        upcast(x, "put:a-1,b");
        due("0 of 49 less 50", ask(x, 0, "hold 0"), -23);
        due("held", x.state(0, 2), 50);
    }

    private static void refused23Free() {
        Counted x = two();
        due("1 of none", ask(x, 0, "free 1"), -23);
        due("0 of none", ask(x, 0, "free 0"), 3);
        ask(x, 0, "hold 20");
        due("21", ask(x, 0, "free 21"), -23);
        due("20", ask(x, 0, "free 20"), 5);
        due("1 of none", ask(x, 0, "free 1"), -23);
        upcast(x, "held:a-1,b");
        due("HELD is below 0", x.state(0, 2), -1);
        due("0 of -1", ask(x, 0, "free 0"), -23);
        due("STOCK does not matter", x.state(0, 1), 50);
        ask(x, 0, "hold 51");
        due("as much as STOCK", ask(x, 0, "free 50"), 7);
    }

    private static void refused25() {
        Counted x = two();
        due("itself", ask(x, 0, "send 1 to 0"), -25);
        due("itself, nothing", ask(x, 0, "send 0 to 0"), -25);
        due("itself, written otherwise", ask(x, 0, "send 1 to 00"), -25);
        due("not yet open", ask(x, 0, "send 1 to 2"), -25);
        due("not yet open", ask(x, 0, "send 0 to 7"), -25);
        due("ahead of 23", ask(x, 0, "send 51 to 2"), -25);
        due("ahead of 23", ask(x, 0, "send 51 to 0"), -25);
        due("open", ask(x, 0, "send 1 to 1"), 3);
        ask(x, 1, "take 1");
        ask(x, 1, "close");
        due("closed", ask(x, 0, "send 1 to 1"), -25);
        due("nothing came", x.count(0), 7);
        due("REFUSED", x.led(3), 8);
    }

    private static void refused23Send() {
        Counted x = two();
        due("51", ask(x, 0, "send 51 to 1"), -23);
        ask(x, 0, "hold 20");
        due("31 of 50 less 20", ask(x, 0, "send 31 to 1"), -23);
        due("30 of 50 less 20", ask(x, 0, "send 30 to 1"), 4);
        due("1 of 20 less 20", ask(x, 0, "send 1 to 1"), -23);
        due("0 of 20 less 20", ask(x, 0, "send 0 to 1"), 5);
        due("what the other has does not matter", ask(x, 1, "hold 30"), 4);
        due("1 of 30 less 30", ask(x, 1, "send 1 to 0"), -23);
        due("0 of 30 less 30", ask(x, 1, "send 0 to 0"), 5);
    }

    private static void sendMakesTwo() {
        Counted x = two();
        due("the STREAM's VERSION", ask(x, 0, "send 5 to 1"), 3);
        due("two", x.count(0), 5);
        same("sent", eventOf(x, 4), "0 3 6 1 5 1");
        same("got", eventOf(x, 5), "1 2 7 1 5 0");
        due("back", ask(x, 1, "send 2 to 0"), 3);
        same("sent", eventOf(x, 6), "1 3 6 1 2 0");
        same("got", eventOf(x, 7), "0 4 7 1 2 1");
        same("state", stateOf(x, 0), "1 47 0 7 4");
        same("state", stateOf(x, 1), "1 3 0 3 3");
        due("one asking", x.led(0), 5);
    }

    private static void refused24() {
        Counted x = two();
        due("50", ask(x, 0, "close"), -24);
        ask(x, 0, "take 49");
        due("1", ask(x, 0, "close"), -24);
        ask(x, 0, "hold 1");
        due("1 held", ask(x, 0, "close"), -24);
        upcast(x, "put:a-2,b");
        due("-1", x.state(0, 1), -1);
        due("-1", ask(x, 0, "close"), -24);
        ask(x, 0, "put 1");
        due("HELD does not matter", x.state(0, 2), 1);
        due("0", ask(x, 0, "close"), 6);
        due("none was ever put", ask(x, 1, "close"), 2);
    }

    private static void whatCommandsWrite() {
        Counted x = new Counted();
        batch(x, "0:open 11;1:open 12;0:put 50;0:take 2;0:hold 3;0:free 1;0:price 9;0:send 4 to 1;1:take 4;1:close");
        String[] wants = {"0 1 0 1 11 0", "1 1 0 1 12 0", "0 2 1 1 50 0", "0 3 2 1 2 0", "0 4 3 1 3 0", "0 5 4 1 1 0",
            "0 6 5 1 9 0", "0 7 6 1 4 1", "1 2 7 1 4 0", "1 3 2 1 4 0", "1 4 8 1 0 0"};
        due("how many", x.count(0), wants.length);
        for (int i = 0; i < wants.length; i++) {
            same("EVENT " + (i + 1), eventOf(x, i + 1), wants[i]);
        }
    }

    private static void expected() {
        Counted x = two();
        due("any", ask(x, 0, -1, 0, "put 1"), 3);
        due("its own", ask(x, 0, 3, 0, "put 1"), 4);
        due("one less", ask(x, 0, 3, 0, "put 1"), CONFLICT);
        due("one more", ask(x, 0, 5, 0, "put 1"), CONFLICT);
        due("0", ask(x, 0, 0, 0, "put 1"), CONFLICT);
        due("240", ask(x, 0, 240, 0, "put 1"), CONFLICT);
        due("nothing came", x.count(0), 5);
        due("CONFLICTS", x.led(2), 4);
        due("not REFUSED", x.led(3), 0);
        due("0 of none", ask(x, 2, 0, 0, "open 1"), 1);
        due("1 of none", ask(x, 3, 1, 0, "open 1"), CONFLICT);
        due("another STREAM's", ask(x, 1, 4, 0, "put 1"), CONFLICT);
        due("its own", ask(x, 1, 1, 0, "put 1"), 2);
        type(x, "put 1");
        due("-2", x.ask(0, -2, 0), BAD);
        due("least", x.ask(0, LEAST, 0), BAD);
        due("the tape stays", x.ask(0, 4, 0), 5);
    }

    private static void conflictAheadOfRefused() {
        Counted x = two();
        due("21", ask(x, 2, 1, 0, "put 1"), CONFLICT);
        due("22", ask(x, 0, 1, 0, "open 1"), CONFLICT);
        due("23", ask(x, 0, 1, 0, "take 51"), CONFLICT);
        due("24", ask(x, 0, 1, 0, "close"), CONFLICT);
        due("25", ask(x, 0, 1, 0, "send 1 to 0"), CONFLICT);
        due("CONFLICTS", x.led(2), 5);
        due("REFUSED", x.led(3), 0);
        due("a FAULT is ahead", ask(x, 0, 1, 0, "puts"), -100);
        due("22", ask(x, 0, 2, 0, "open 1"), -22);
    }

    // ---- numbers of askings

    private static void numbers() {
        Counted x = two();
        due("0", ask(x, 0, -1, 0, "put 1"), 3);
        due("0: none", ask(x, 0, -1, 0, "put 1"), 4);
        due("1", ask(x, 0, -1, 1, "put 1"), 5);
        due("1 again", ask(x, 0, -1, 1, "put 1"), 5);
        due("999", ask(x, 0, -1, 999, "put 1"), 6);
        due("999 again", ask(x, 0, -1, 999, "put 1"), 6);
        due("998", ask(x, 0, -1, 998, "put 1"), 7);
        due("NUMBERS", x.count(4), 3);
        due("REPEATED", x.led(1), 2);
        type(x, "put 1");
        due("1000", x.ask(0, -1, 1000), BAD);
        due("-1", x.ask(0, -1, -1), BAD);
        due("most", x.ask(0, -1, MOST), BAD);
        due("least", x.ask(0, -1, LEAST), BAD);
        due("the tape stays", x.count(2), 5);
        due("it is read", x.ask(0, -1, 2), 8);
        due("NUMBERS", x.count(4), 4);
    }

    private static void repeated() {
        Counted x = new Counted();
        due("VERSION 1", ask(x, 0, 0, 5, "open 7"), 1);
        due("NUMBERS", x.count(4), 1);
        due("what it was: 1", ask(x, 0, 0, 5, "open 7"), 1);
        due("REPEATED", x.led(1), 1);
        due("none REFUSED", x.led(3), 0);
        x = two();
        due("put", ask(x, 0, 2, 5, "put 1"), 3);
        due("others", batch(x, "0:put 1;0:put 1"), 2);
        due("what it was", ask(x, 0, 2, 5, "put 1"), 3);
        due("ahead of CONFLICT", ask(x, 0, 0, 5, "put 1"), 3);
        due("ahead of REFUSED", ask(x, 0, -1, 5, "open 1"), 3);
        due("another COMMAND", ask(x, 0, 5, 5, "price 1"), 3);
        due("nothing is done", x.count(0), 6);
        due("price", x.state(0, 3), 7);
        due("REPEATED", x.led(1), 4);
        due("no CONFLICT", x.led(2), 0);
        due("none REFUSED", x.led(3), 0);
        due("askings done", x.led(0), 6);
        due("NUMBERS", x.count(4), 1);
        due("a FAULT is ahead", ask(x, 0, 2, 5, "put"), -103);
        due("REPEATED", x.led(1), 4);
        due("a send", ask(x, 0, -1, 6, "send 1 to 1"), 6);
        due("a send again", ask(x, 0, -1, 6, "send 1 to 1"), 6);
        due("once", x.state(1, 1), 1);
    }

    private static void repeatedElsewhere() {
        Counted x = two();
        due("put", ask(x, 0, -1, 5, "put 1"), 3);
        for (int s = 0; s < 8; s++) {
            due("of " + s, ask(x, s, -1, 5, "put 1"), 3);
        }
        due("nothing is done", x.count(0), 4);
        due("REPEATED", x.led(1), 8);
        type(x, "put 1");
        due("BAD is ahead", x.ask(8, -1, 5), BAD);
        due("BAD is ahead", x.ask(0, -2, 5), BAD);
    }

    private static void numbersWithoutEvents() {
        Counted x = two();
        due("REFUSED", ask(x, 0, -1, 5, "take 51"), -23);
        due("REFUSED again", ask(x, 0, -1, 5, "take 51"), -23);
        due("CONFLICT", ask(x, 0, 9, 5, "put 1"), CONFLICT);
        due("a FAULT", ask(x, 0, -1, 5, "puts"), -100);
        due("NUMBERS", x.count(4), 0);
        due("REPEATED", x.led(1), 0);
        due("it comes", ask(x, 0, -1, 5, "put 1"), 3);
        due("NUMBERS", x.count(4), 1);
        due("now it is", ask(x, 0, -1, 5, "put 1"), 3);
        due("put 0 makes an EVENT", ask(x, 0, -1, 6, "put 0"), 4);
        due("put 0 makes an EVENT", ask(x, 0, -1, 6, "put 0"), 4);
        due("REPEATED", x.led(1), 2);
    }

    private static void repeatedWhenFull() {
        Counted x = filled(239);
        due("no room for two", ask(x, 0, -1, 7, "send 1 to 1"), FULL);
        due("no NUMBER", x.count(4), 0);
        due("the last", ask(x, 0, -1, 7, "put 1"), 239);
        due("what it was", ask(x, 0, -1, 7, "put 1"), 239);
        due("FULL", ask(x, 0, -1, 8, "put 1"), FULL);
        due("NUMBERS", x.count(4), 1);
        due("REPEATED", x.led(1), 1);
        due("FULL counts nowhere", x.led(2) + x.led(3), 0);
        due("REFUSED needs no room", ask(x, 0, -1, 8, "open 1"), -22);
    }

    // ---- batches

    private static void lines() {
        due("none", new Counted().batch(), -100);
        due("one", batch(two(), "0:put 1"), 1);
        due("one that is close", batch(two(), "1:close"), 1);
        Counted x = new Counted();
        StringBuilder lines = new StringBuilder("0:open 1;1:open 1");
        for (int i = 0; i < 17; i++) {
            lines.append(";0:put ").append(i % 10);
        }
        due("as long as may be", lines.length(), 17 + 17 * 8);
        due("nineteen", batch(x, lines.toString()), 19);
        due("stock", x.state(0, 1), 45 + 21);
        due("askings", x.led(0), 19);
        StringBuilder closes = new StringBuilder("0:close");
        for (int i = 0; i < 19; i++) {
            closes.append(";0:close");
        }
        due("twenty", closes.length(), 159);
        due("the first is REFUSED", batch(x, closes.toString()), -300);
        due("the second is REFUSED", batch(two(), "1" + closes.substring(1).replace('0', '1')), -301);
        x = two();
        due("sends count twice", batch(x, "0:put 3;0:send 1 to 1;0:send 1 to 1"), 5);
        due("askings", x.led(0), 6);
    }

    private static void linesBehindOneAnother() {
        Counted x = new Counted();
        due("open, then put, then take, then close", batch(x, "3:open 1;3:put 5;3:take 5;3:close"), 4);
        due("closed", x.state(3, 0), 2);
        due("one opens for another", batch(x, "0:open 1;1:open 1;0:put 9;0:send 9 to 1;1:send 9 to 0"), 7);
        due("stock", x.state(0, 1), 9);
        due("held by one ahead", batch(x, "0:hold 9;0:take 1"), -301);
        due("taken by one ahead", batch(x, "0:take 5;0:take 5"), -301);
        due("closed by one ahead", batch(x, "1:close;1:put 1"), -301);
        due("closed by one ahead", batch(x, "1:close;0:send 1 to 1"), -301);
        due("put by one ahead", batch(x, "0:put 1;0:take 10"), 2);
        for (int i = 0; i < 4; i++) {
            due("VERSIONS", x.event(1 + i, 1), 1 + i);
        }
    }

    private static void refusedLine() {
        String ahead = "";
        for (int i = 0; i < 20; i++) {
            Counted x = two();
            x.every(1);
            due("LINE " + i, batch(x, ahead + "2:put 1"), -300 - i);
            due("nothing came", x.count(0), 3);
            due("stock", x.state(0, 1), 50);
            due("version", x.state(0, 4), 2);
            due("no SNAPSHOTS", x.count(5), 0);
            due("askings", x.led(0), 3);
            ahead = ahead + "0:put 1;";
        }
        due("as long as may be", ahead.length(), 160);
    }

    private static void lineWithoutRoom() {
        Counted x = filled(237);
        x.every(1);
        due("the fourth", batch(x, "0:put 1;0:put 1;0:put 1;0:put 1"), -303);
        due("the second", batch(x, "0:send 1 to 1;0:send 1 to 1"), -301);
        due("the third", batch(x, "0:send 1 to 1;0:put 1;0:send 1 to 1"), -302);
        due("nothing came", x.count(0), 237);
        due("no SNAPSHOTS", x.count(5), 0);
        due("askings", x.led(0), 237);
        due("three", batch(x, "0:send 1 to 1;0:put 1"), 3);
    }

    private static void ledOfBatches() {
        Counted x = two();
        batch(x, "0:take 99;0:take 99;0:take 99");
        due("1 for a BATCH", x.led(3), 1);
        batch(x, "0:put 1;0:put 1;0:take 99");
        due("1 for a BATCH", x.led(3), 2);
        due("its LINES were not done", x.led(0), 3);
        batch(x, "0:put 1;0:put 1");
        due("LINES of BATCHES that were", x.led(0), 5);
        batch(x, "0:put 1;0:x");
        due("a FAULT", x.led(3) + x.led(0), 7);
        x = filled(239);
        batch(x, "0:put 1;0:put 1");
        batch(x, "0:send 1 to 1");
        due("without room", x.led(3), 0);
        due("REFUSED, and then without room", batch(x, "0:take 999;0:put 1;0:put 1"), -300);
        due("REFUSED", x.led(3), 1);
        due("without room, and then REFUSED", batch(x, "0:put 1;0:put 1;0:take 999"), -301);
        due("without room", x.led(3), 1);
    }

    // ---- the log's calls

    private static void eventEdges() {
        Counted x = two();
        int[][] wants = {{0, 1, 0, 1, 7, 0, 7, 0}, {1, 1, 0, 1, 3, 0, 3, 0}, {0, 2, 1, 1, 50, 0, 50, 0}};
        for (int position = 1; position <= 3; position++) {
            for (int what = 0; what < 8; what++) {
                due("event " + position + " " + what, x.event(position, what), wants[position - 1][what]);
            }
        }
        for (int position : new int[] {LEAST, -1, 0, 4, 240, MOST}) {
            due("POSITION " + position, x.event(position, 0), VOID);
        }
        for (int what : new int[] {LEAST, -1, 8, 9, MOST}) {
            due("what " + what, x.event(1, what), VOID);
        }
        x = filled(240);
        due("the last", x.event(240, 1), 239);
        due("none behind it", x.event(241, 1), VOID);
    }

    private static void textEdges() {
        Counted x = two();
        String first = "1:opened 0.1 a=7 b=0 f1";
        due("how many", x.text(1, -1), first.length());
        due("first", x.text(1, 0), '1');
        due("last", x.text(1, first.length() - 1), '1');
        due("one before", x.text(1, first.length() - 2), 'f');
        due("fewer", x.text(1, first.length()), NOT);
        due("fewer", x.text(1, MOST), NOT);
        due("-2", x.text(1, -2), BAD);
        due("least", x.text(1, LEAST), BAD);
        due("no such POSITION", x.text(0, 0), BAD);
        due("no such POSITION", x.text(4, 0), BAD);
        due("no such POSITION", x.text(-1, -1), BAD);
        due("BAD ahead of NOT", x.text(4, 99), BAD);
        due("BAD ahead of NOT", x.text(0, MOST), BAD);
        due("the last EVENT", x.text(3, -1), "3:put 0.2 a=50 b=0 f1".length());
    }

    private static void texts() {
        Counted x = new Counted();
        batch(x, "0:open 0;7:open 999;0:put 10;0:take 9;0:hold 1;0:free 1;0:price 100;0:send 1 to 7;0:close");
        String[] wants = {"1:opened 0.1 a=0 b=0 f1", "2:opened 7.1 a=999 b=0 f1", "3:put 0.2 a=10 b=0 f1",
            "4:taken 0.3 a=9 b=0 f1", "5:held 0.4 a=1 b=0 f1", "6:freed 0.5 a=1 b=0 f1", "7:priced 0.6 a=100 b=0 f1",
            "8:sent 0.7 a=1 b=7 f1", "9:got 7.2 a=1 b=0 f1", "10:closed 0.8 a=0 b=0 f1"};
        for (int i = 0; i < wants.length; i++) {
            same("TEXT", textOf(x, i + 1), wants[i]);
        }
        for (int i = 0; i < 3; i++) {
            upcast(x, "put:0-a*1000,b-1");
        }
        same("A, B as written", textOf(x, 3), wants[2]);
        ask(x, 7, "put 20");
        same("FORMAT", textOf(x, 11), "11:put 7.3 a=20 b=0 f4");
        x = filled(240);
        same("three figures", textOf(x, 240), "240:put 0.239 a=1 b=0 f1");
        same("two figures", textOf(x, 99), "99:put 0.98 a=1 b=0 f1");
        same("0 inside", textOf(x, 101), "101:put 0.100 a=1 b=0 f1");
    }

    private static void findEdges() {
        Counted x = two();
        due("first", x.find(0, 1), 1);
        due("another STREAM's", x.find(1, 1), 2);
        due("its latest", x.find(0, 2), 3);
        due("one more", x.find(0, 3), BAD);
        due("0", x.find(0, 0), BAD);
        due("-1", x.find(0, -1), BAD);
        due("least", x.find(0, LEAST), BAD);
        due("most", x.find(0, MOST), BAD);
        due("of a STREAM without EVENTS", x.find(2, 1), BAD);
        due("of a STREAM without EVENTS", x.find(2, 0), BAD);
        due("-1", x.find(-1, 1), BAD);
        due("8", x.find(8, 1), BAD);
        x = filled(240);
        due("the last", x.find(0, 239), 240);
        due("none behind it", x.find(0, 240), BAD);
    }

    private static void worthEdges() {
        Counted x = two();
        ask(x, 1, "put 10");
        ask(x, 0, "price 2");
        ask(x, 1, "take 10");
        ask(x, 1, "close");
        long[] wants = {0, 0, 0, 350, 380, 130, 100, 100};
        for (int position = 0; position < wants.length; position++) {
            due("at " + position, x.worth(position), wants[position]);
        }
        due("-1", x.worth(-1), Long.MIN_VALUE);
        due("8", x.worth(8), Long.MIN_VALUE);
        due("least", x.worth(LEAST), Long.MIN_VALUE);
        due("most", x.worth(MOST), Long.MIN_VALUE);
        upcast(x, "taken:a-1,b");
        due("a closed one with STOCK does not count", x.worth(7), 100);
        due("an open one does", x.worth(6), 103);
        upcast(x, "put:a*2,b");
        due("READ now", x.worth(3), 700);
        due("READ now", x.worth(4), 760);
        due("READ now", x.worth(7), 200);
    }

    private static void worthAsLong() {
        Counted x = two();
        ask(x, 1, "put 50");
        upcast(x, "put:" + MOST_AS_C + ",b");
        upcast(x, "opened:" + MOST_AS_C + ",b");
        long square = (long) MOST * MOST;
        due("one", x.worth(3), square);
        due("two", x.worth(4), square * 2);
        upcast(x, "opened:a+1,b");
        due("below 0", x.worth(3), (long) MOST * LEAST);
        upcast(x, "put:a+1,b");
        due("least by least", x.worth(3), 1L << 62);
        ask(x, 2, "open 1");
        upcast(x, "opened:" + MOST_AS_C + "+1,b");
        ask(x, 2, "put 1");
        upcast(x, "put:" + MOST_AS_C + "+1,b");
        due("wraps", x.worth(6), 3 * (1L << 62));
    }
}

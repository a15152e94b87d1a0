/** Block 3 of the terms: PROJECTIONS, POLICIES, CLIENTS, WATCHES, FORESEEN, AN IMAGE. Each sentence with an edge. */
public final class EdgesOfReaders extends ByHand {
    public static void main(String[] args) {
        edge("PROJECTIONS 0 .. 3", EdgesOfReaders::fourProjections);
        edge("KINDS: all, or words of KINDS with + between", EdgesOfReaders::kinds);
        edge("KEY: stream, kind, none", EdgesOfReaders::keys);
        edge("for which C is not 0", EdgesOfReaders::conditions);
        edge("It has ROWS by keys, none at first", EdgesOfReaders::rowsThatCome);
        edge("sum: it is A more (A, if it comes)", EdgesOfReaders::foldSum);
        edge("count: 1 more (1)", EdgesOfReaders::foldCount);
        edge("most, least: A, if A is more, less", EdgesOfReaders::foldMostLeast);
        edge("first: stays; last: A", EdgesOfReaders::foldFirstLast);
        edge("project: CHECKPOINT 0, without ROWS, none BESIDE then", EdgesOfReaders::projectAnew);
        edge("rebuild: of THE TAPE, or, if that is empty, of the LIVE one's text", EdgesOfReaders::rebuildOfTexts);
        edge("rebuild: STATE: no LIVE one (THE TAPE stays)", EdgesOfReaders::rebuildOfNone);
        edge("DELIVERED: one up to the CHECKPOINT is SKIPPED", EdgesOfReaders::skipped);
        edge("DELIVERED: the next one is HANDLED", EdgesOfReaders::handled);
        edge("DELIVERED: a later one is a GAP: it ends there (what came ahead counts)", EdgesOfReaders::gaps);
        edge("deliver: n (1 .. 240) EVENTS from a POSITION (1 or more) on", EdgesOfReaders::deliverNumbers);
        edge("deliver: as far as there are such", EdgesOfReaders::asFarAsThereAre);
        edge("deliver: STATE: there is no such one", EdgesOfReaders::deliverToNone);
        edge("HANDLED is by UPCASTERS as of then; ROWS stay, when others come", EdgesOfReaders::upcastersOfThen);
        edge("TRUE: ROWS are as EVENTS up to the CHECKPOINT, READ as of now, give them", EdgesOfReaders::isTrue);
        edge("SWAPPED: its CHECKPOINT may not be less than the LIVE one's", EdgesOfReaders::swapEdges);
        edge("Behind swap() none is BESIDE", EdgesOfReaders::noneBesideBehindSwap);
        edge("look: the sum of its ROWS (4; wraps)", EdgesOfReaders::lookEdges);
        edge("row: a key (0 .. 8); VOID: there is no such one", EdgesOfReaders::rowEdges);
        edge("POLICIES 0 .. 3 each have a CHECKPOINT", EdgesOfReaders::fourPolicies);
        edge("CHECKPOINT: all EVENTS there are, when one is told", EdgesOfReaders::policyCheckpoint);
        edge("what it gives, held within 0 .. 999", EdgesOfReaders::heldWithin);
        edge("RUN for n (1 .. 240) EVENTS: how many were handled", EdgesOfReaders::runNumbers);
        edge("of its KINDS, for which C is not 0, READ", EdgesOfReaders::policyConditions);
        edge("the COMMAND is ASKED of the EVENT's STREAM", EdgesOfReaders::policyStreams);
        edge("it may be REFUSED", EdgesOfReaders::policyRefused);
        edge("if THE LOG has no room for it, the EVENT is not handled, and it ends", EdgesOfReaders::policyFull);
        edge("Its own EVENTS come behind, and are handled in their turn", EdgesOfReaders::policyOwnEvents);
        edge("policyOf: STATE: there is none", EdgesOfReaders::policyOfEdges);
        edge("CLIENTS 0 .. 3 may have SEEN a STREAM at a VERSION", EdgesOfReaders::fourClients);
        edge("HARMLESS: KINDS, or nothing: none: how many KINDS", EdgesOfReaders::harmlessKinds);
        edge("if this has another VERSION by now: CONFLICT", EdgesOfReaders::triedConflict);
        edge("but if it is asked for and all its EVENTS since are of HARMLESS KINDS", EdgesOfReaders::triedHarmless);
        edge("When EVENTS came, it has SEEN the VERSION of then", EdgesOfReaders::triedSeen);
        edge("attempt: REFUSED, FULL", EdgesOfReaders::triedRefused);
        edge("attempt: STATE: it has SEEN none (THE TAPE stays, a FAULT in it, too)", EdgesOfReaders::triedUnseen);
        edge("watch: the first VERSION (0 to its own) at which it is not 0 (NOT)", EdgesOfReaders::watchFirst);
        edge("watch: at how many it is", EdgesOfReaders::watchTimes);
        edge("watch: the most of such one behind the other", EdgesOfReaders::watchLongest);
        edge("watch: the last such VERSION (NOT)", EdgesOfReaders::watchLast);
        edge("A WATCH has o, k, h, p, v", EdgesOfReaders::watchLetters);
        edge("FORESEEN: LINE by LINE, till one is REFUSED", EdgesOfReaders::foreseeRefused);
        edge("FORESEEN: or would make THE LOG too long", EdgesOfReaders::foreseeFull);
        edge("FORESEEN: a BATCH done in thought", EdgesOfReaders::foreseeChangesNothing);
        edge("tally: at POSITIONS from one to another", EdgesOfReaders::tallyEdges);
        edge("tally: the sum (1; wraps), the most (2; VOID: none)", EdgesOfReaders::tallySums);
        edge("digest: d = 7, d * 31 + byte: its 32 bits as a number from 0 on", EdgesOfReaders::digestEdges);
        edge("image, back: STATE: there is none", EdgesOfReaders::backOfNone);
        edge("AN IMAGE keeps THE LOG", EdgesOfReaders::imageOfLog);
        edge("AN IMAGE keeps UPCASTERS, SNAPSHOTS, EVERY, NUMBERS", EdgesOfReaders::imageOfFormats);
        edge("AN IMAGE keeps SNAPSHOTS: the latest 4 of then", EdgesOfReaders::imageOfSnapshots);
        edge("AN IMAGE keeps PROJECTIONS", EdgesOfReaders::imageOfProjections);
        edge("AN IMAGE keeps POLICIES, HARMLESS, what CLIENTS have SEEN", EdgesOfReaders::imageOfClients);
        edge("AN IMAGE keeps what LED tells", EdgesOfReaders::imageOfLed);
        edge("AN IMAGE does not keep THE TAPE", EdgesOfReaders::imageWithoutTape);
        edge("AN IMAGE: of a full LOG", EdgesOfReaders::imageWhenFull);
        edge("AN IMAGE stays as it was", EdgesOfReaders::imageStays);
        edge("led: askings by POLICIES and CLIENTS, too", EdgesOfReaders::ledEdges);
        edge("count: how many", EdgesOfReaders::countEdges);
        end("EdgesOfReaders");
    }

    /** PROJECTION p as told, with all EVENTS delivered to it. */
    private static void projected(Counted x, int p, String text) {
        due(text, project(x, p, text), 1);
        due("handled", x.deliver(p, 0, 1, 240), x.count(0));
    }

    private static String rowsOf(Counted x, int p, int which) {
        StringBuilder told = new StringBuilder();
        for (int key = 0; key < 9; key++) {
            int row = x.row(p, which, key);
            told.append(key == 0 ? "" : " ").append(row == VOID ? "." : "" + row);
        }
        return told.toString();
    }

    // ---- projections

    private static void fourProjections() {
        Counted x = two();
        String[] folds = {"sum", "count", "last", "first"};
        int[] rows = {60, 3, 50, 7};
        for (int p = 0; p < 4; p++) {
            due("none", x.look(p, 0, 0), VOID);
            due("told", project(x, p, folds[p] + " of all by none"), 1);
            due("live ones", x.count(6), p + 1);
        }
        for (int p = 3; p >= 0; p--) {
            due("handled", x.deliver(p, 0, 1, 240), 3);
            for (int q = 0; q < p; q++) {
                due("the others did not", x.look(q, 0, 0), 0);
            }
        }
        for (int p = 0; p < 4; p++) {
            due("its row", x.row(p, 0, 0), rows[p]);
        }
        due("told again", project(x, 3, "sum of all by none"), 1);
        due("live ones", x.count(6), 4);
    }

    private static Counted nineKinds() {
        Counted x = new Counted();
        batch(x, "0:open 1;1:open 1;0:put 50;0:take 2;0:hold 3;0:free 3;0:price 4;0:send 5 to 1;1:put 7;0:take 43;0:close");
        due("EVENTS", x.count(0), 12);
        return x;
    }

    private static void kinds() {
        int[] counts = {2, 2, 2, 1, 1, 1, 1, 1, 1};
        String words = "";
        int sum = 0;
        for (int k = 0; k < 9; k++) {
            Counted x = nineKinds();
            String word = EdgesOfTexts.KIND_WORDS[k];
            projected(x, 0, "count of " + word + " by kind");
            due(word, x.row(0, 0, k), counts[k]);
            due("that alone", x.look(0, 0, 1), 1);
            due("that alone", x.look(0, 0, 4), counts[k]);
            words = k == 0 ? word : words + "+" + word;
            sum += counts[k];
            projected(x, 1, "count of " + words + " by none");
            due(words, x.row(1, 0, 0), sum);
        }
        Counted x = nineKinds();
        projected(x, 0, "count of all by none");
        due("all", x.row(0, 0, 0), 12);
        projected(x, 1, "count of put+put by none");
        due("a word twice", x.row(1, 0, 0), 2);
        projected(x, 2, "count of closed+opened+closed by none");
        due("in any order", x.row(2, 0, 0), 3);
    }

    private static void keys() {
        Counted x = nineKinds();
        projected(x, 0, "count of all by stream");
        same("stream", rowsOf(x, 0, 0), "9 3 . . . . . . .");
        projected(x, 1, "count of all by kind");
        same("kind", rowsOf(x, 1, 0), "2 2 2 1 1 1 1 1 1");
        projected(x, 2, "count of all by none");
        same("none", rowsOf(x, 2, 0), "12 . . . . . . . .");
        ask(x, 7, "open 9");
        projected(x, 0, "sum of opened by stream");
        same("the last STREAM", rowsOf(x, 0, 0), "1 1 . . . . . 9 .");
        due("ROWS", x.look(0, 0, 1), 3);
    }

    private static void conditions() {
        Counted x = two();
        batch(x, "0:put 49;0:put 51;1:put 50");
        projected(x, 0, "sum of put by stream if a-50");
        same("below 0 is not 0", rowsOf(x, 0, 0), "100 . . . . . . . .");
        due("all were HANDLED", x.look(0, 0, 0), 6);
        projected(x, 1, "count of put by none if s");
        due("STREAM 0 is 0", x.row(1, 0, 0), 1);
        projected(x, 2, "count of put by none if 0");
        due("never", x.look(2, 0, 1), 0);
        projected(x, 3, "count of put by none if 1");
        due("ever", x.row(3, 0, 0), 4);
        upcast(x, "put:a-1,a");
        projected(x, 0, "count of put by none if a=49");
        due("READ", x.row(0, 0, 0), 2);
        projected(x, 0, "sum of put by none if b>50");
        due("READ", x.row(0, 0, 0), 50);
    }

    private static void rowsThatCome() {
        Counted x = two();
        project(x, 0, "sum of put by stream");
        due("none at first", x.look(0, 0, 1), 0);
        same("none at first", rowsOf(x, 0, 0), ". . . . . . . . .");
        due("sum of none", x.look(0, 0, 4), 0);
        x.deliver(0, 0, 1, 2);
        due("not of its KINDS", x.look(0, 0, 1), 0);
        x.deliver(0, 0, 3, 1);
        due("one came", x.look(0, 0, 1), 1);
        ask(x, 1, "put 0");
        x.deliver(0, 0, 4, 1);
        same("0 is a ROW", rowsOf(x, 0, 0), "50 0 . . . . . . .");
        due("two", x.look(0, 0, 1), 2);
        ask(x, 0, "put 0");
        projected(x, 1, "count of put by stream if a=0");
        same("only where C is not 0", rowsOf(x, 1, 0), "1 1 . . . . . . .");
    }

    private static void foldSum() {
        Counted x = two();
        batch(x, "0:put 0;0:put 9;1:put 5");
        projected(x, 0, "sum of put by stream");
        same("sum", rowsOf(x, 0, 0), "59 5 . . . . . . .");
        upcast(x, "put:" + MOST_AS_C + "-(a=5),b");
        projected(x, 0, "sum of put by stream");
        due("wraps", x.row(0, 0, 0), MOST + MOST + MOST);
        due("A, if it comes", x.row(0, 0, 1), MOST - 1);
        upcast(x, "put:-a,b");
        projected(x, 0, "sum of put by stream");
        due("below 0", x.row(0, 0, 0), -MOST - MOST - MOST);
    }

    private static void foldCount() {
        Counted x = two();
        projected(x, 0, "count of put by stream");
        due("1", x.row(0, 0, 0), 1);
        for (int i = 2; i < 6; i++) {
            ask(x, 0, "put 0");
            x.deliver(0, 0, 1, 240);
            due("1 more", x.row(0, 0, 0), i);
        }
    }

    private static void foldMostLeast() {
        Counted x = two();
        int[] puts = {50, 60, 40, 70};
        int[] mosts = {50, 50, 60, 60, 70};
        int[] leasts = {50, 50, 50, 40, 40};
        project(x, 0, "most of put by none");
        project(x, 1, "least of put by none");
        for (int i = 0; i <= puts.length; i++) {
            x.deliver(0, 0, 1, 240);
            x.deliver(1, 0, 1, 240);
            due("most", x.row(0, 0, 0), mosts[i]);
            due("least", x.row(1, 0, 0), leasts[i]);
            ask(x, 0, "put " + puts[Math.min(i, puts.length - 1)]);
        }
        x = two();
        upcast(x, "put:a-100,b");
        projected(x, 0, "most of put by none");
        projected(x, 1, "least of put by none");
        due("most of one below 0", x.row(0, 0, 0), -50);
        due("least of one below 0", x.row(1, 0, 0), -50);
        projected(x, 2, "least of opened by none");
        due("least of more than 0", x.row(2, 0, 0), 3);
        upcast(x, "opened:(a=7)*" + MOST_AS_C + "+(a=3)*(-" + MOST_AS_C + "-1),b");
        projected(x, 0, "most of opened by none");
        projected(x, 1, "least of opened by none");
        due("most of all ints", x.row(0, 0, 0), MOST);
        due("least of all ints", x.row(1, 0, 0), LEAST);
    }

    private static void foldFirstLast() {
        Counted x = two();
        batch(x, "0:put 0;0:put 60;1:put 5;0:put 40");
        projected(x, 0, "first of put by stream");
        same("first", rowsOf(x, 0, 0), "50 5 . . . . . . .");
        projected(x, 1, "last of put by stream");
        same("last", rowsOf(x, 1, 0), "40 5 . . . . . . .");
        ask(x, 0, "put 0");
        x.deliver(0, 0, 1, 240);
        x.deliver(1, 0, 1, 240);
        due("first stays", x.row(0, 0, 0), 50);
        due("last is 0", x.row(1, 0, 0), 0);
        projected(x, 2, "first of put by stream if a<50");
        due("first that counts", x.row(2, 0, 0), 0);
    }

    private static void projectAnew() {
        Counted x = two();
        projected(x, 0, "sum of put by stream");
        x.rebuild(0);
        x.deliver(0, 1, 1, 2);
        due("a FAULT", project(x, 0, "sum of put by"), -100 - 13);
        due("LIVE stays", x.look(0, 0, 0), 3);
        due("LIVE stays", x.row(0, 0, 0), 50);
        due("BESIDE stays", x.look(0, 1, 0), 2);
        due("the empty text", x.project(0), -100);
        due("LIVE stays", x.look(0, 0, 0), 3);
        due("told", project(x, 0, "count of put by none"), 1);
        due("CHECKPOINT", x.look(0, 0, 0), 0);
        due("ROWS", x.look(0, 0, 1), 0);
        due("none BESIDE", x.look(0, 1, 0), VOID);
        due("none BESIDE", x.swap(0), STATE);
        due("none BESIDE", x.deliver(0, 1, 1, 1), STATE);
        type(x, "sum of all by none");
        due("-1", x.project(-1), BAD);
        due("4", x.project(4), BAD);
        due("the tape stays", x.count(2), 18);
        due("3", x.project(3), 1);
        due("all EVENTS", x.deliver(3, 0, 1, 240), 3);
        due("of its text", x.row(3, 0, 0), 60);
    }

    private static void rebuildOfTexts() {
        Counted x = two();
        projected(x, 0, "sum of put by stream");
        due("of the LIVE one's", x.rebuild(0), 1);
        due("CHECKPOINT", x.look(0, 1, 0), 0);
        due("ROWS", x.look(0, 1, 1), 0);
        x.deliver(0, 1, 1, 240);
        due("the same", x.row(0, 1, 0), 50);
        due("LIVE as it was", x.look(0, 0, 0), 3);
        due("of THE TAPE", rebuild(x, 0, "count of all by none"), 1);
        due("CHECKPOINT", x.look(0, 1, 0), 0);
        due("ROWS", x.look(0, 1, 1), 0);
        x.deliver(0, 1, 1, 240);
        due("another", x.row(0, 1, 0), 3);
        due("LIVE as it was", x.row(0, 0, 0), 50);
        due("a FAULT", rebuild(x, 0, "count of all by nones"), -100 - 16);
        due("BESIDE stays", x.row(0, 1, 0), 3);
        due("again, of the LIVE one's", x.rebuild(0), 1);
        x.deliver(0, 1, 1, 240);
        due("not of the one BESIDE", x.row(0, 1, 0), 50);
        rebuild(x, 0, "count of all by none");
        x.deliver(0, 1, 1, 240);
        x.swap(0);
        x.rebuild(0);
        x.deliver(0, 1, 1, 240);
        due("of the one that is LIVE now", x.row(0, 1, 0), 3);
    }

    private static void rebuildOfNone() {
        for (int p = 0; p < 4; p++) {
            Counted x = two();
            project(x, (p + 1) % 4, "sum of put by none");
            type(x, "sum of put by none");
            due("no LIVE one", x.rebuild(p), STATE);
            due("THE TAPE stays", x.count(2), 18);
            due("bad", x.rebuild(4), BAD);
            due("bad", x.rebuild(-1), BAD);
            due("THE TAPE stays", x.count(2), 18);
            due("none BESIDE", x.look(p, 1, 0), VOID);
            due("it is read", x.project(p), 1);
            due("now there is", x.rebuild(p), 1);
        }
        Counted x = two();
        type(x, "x");
        due("ahead of a FAULT", x.rebuild(0), STATE);
        due("THE TAPE stays", x.count(2), 1);
        x = two();
        due("without a text", x.rebuild(0), STATE);
    }

    private static void skipped() {
        Counted x = two();
        batch(x, "0:put 1;0:put 1;0:put 1");
        project(x, 0, "sum of put by none");
        due("four", x.deliver(0, 0, 1, 4), 4);
        due("again", x.deliver(0, 0, 1, 4), 0);
        due("SKIPPED", x.led(5), 4);
        due("the CHECKPOINT", x.deliver(0, 0, 4, 1), 0);
        due("SKIPPED", x.led(5), 5);
        due("the first", x.deliver(0, 0, 1, 1), 0);
        due("SKIPPED", x.led(5), 6);
        due("just once", x.row(0, 0, 0), 51);
        due("CHECKPOINT", x.look(0, 0, 0), 4);
        due("some SKIPPED, some HANDLED", x.deliver(0, 0, 3, 3), 1);
        due("SKIPPED", x.led(5), 8);
        due("HANDLED", x.led(4), 5);
        due("no GAP", x.led(6), 0);
        due("sum", x.row(0, 0, 0), 52);
    }

    private static void handled() {
        Counted x = two();
        project(x, 0, "sum of put by none");
        due("the first", x.deliver(0, 0, 1, 1), 1);
        due("CHECKPOINT", x.look(0, 0, 0), 1);
        due("the second", x.deliver(0, 0, 2, 1), 1);
        due("CHECKPOINT", x.look(0, 0, 0), 2);
        due("the third", x.deliver(0, 0, 3, 1), 1);
        due("CHECKPOINT", x.look(0, 0, 0), 3);
        due("HANDLED", x.led(4), 3);
        due("not SKIPPED", x.led(5), 0);
        due("no GAPS", x.led(6), 0);
        x.rebuild(0);
        due("the one BESIDE too", x.deliver(0, 1, 1, 3), 3);
        due("HANDLED", x.led(4), 6);
        due("row", x.row(0, 1, 0), 50);
    }

    private static void gaps() {
        Counted x = two();
        batch(x, "0:put 1;0:put 1;0:put 1");
        project(x, 0, "sum of put by none");
        due("the second ahead of the first", x.deliver(0, 0, 2, 1), 0);
        due("GAPS", x.led(6), 1);
        due("it ends there", x.deliver(0, 0, 2, 5), 0);
        due("one for each call", x.led(6), 2);
        due("CHECKPOINT", x.look(0, 0, 0), 0);
        due("two", x.deliver(0, 0, 1, 2), 2);
        due("the fourth ahead of the third", x.deliver(0, 0, 4, 3), 0);
        due("GAPS", x.led(6), 3);
        due("the last", x.deliver(0, 0, 6, 1), 0);
        due("GAPS", x.led(6), 4);
        due("CHECKPOINT", x.look(0, 0, 0), 2);
        due("nothing is SKIPPED by it", x.led(5), 0);
        due("HANDLED", x.led(4), 2);
        due("the third", x.deliver(0, 0, 3, 1), 1);
    }

    private static void deliverNumbers() {
        Counted x = two();
        project(x, 0, "sum of put by none");
        for (int n : new int[] {LEAST, -1, 0, 241, 1000, MOST}) {
            due("n " + n, x.deliver(0, 0, 1, n), BAD);
        }
        for (int from : new int[] {LEAST, -240, -1, 0}) {
            due("from " + from, x.deliver(0, 0, from, 240), BAD);
        }
        for (int which : new int[] {LEAST, -1, 2, MOST}) {
            due("which " + which, x.deliver(0, which, 1, 1), BAD);
        }
        for (int p : new int[] {LEAST, -1, 4, MOST}) {
            due("p " + p, x.deliver(p, 0, 1, 1), BAD);
        }
        due("nothing was", x.look(0, 0, 0), 0);
        due("LED tells nothing", x.led(4) + x.led(5) + x.led(6), 0);
        due("n 1", x.deliver(0, 0, 1, 1), 1);
        due("n 240", x.deliver(0, 0, 1, 240), 2);
        x = filled(240);
        project(x, 0, "count of all by none");
        due("239", x.deliver(0, 0, 1, 239), 239);
        due("240", x.deliver(0, 0, 1, 240), 1);
        due("all", x.row(0, 0, 0), 240);
        due("SKIPPED", x.led(5), 239);
        due("the last", x.deliver(0, 0, 240, 1), 0);
        due("SKIPPED", x.led(5), 240);
    }

    private static void asFarAsThereAre() {
        Counted x = two();
        project(x, 0, "sum of put by none");
        due("none there", x.deliver(0, 0, 4, 1), 0);
        due("none there", x.deliver(0, 0, 240, 240), 0);
        due("none there", x.deliver(0, 0, 241, 240), 0);
        due("none there", x.deliver(0, 0, MOST, 240), 0);
        due("none there", x.deliver(0, 0, MOST - 100, 240), 0);
        due("no GAP", x.led(6), 0);
        due("three", x.deliver(0, 0, 1, 4), 3);
        due("none behind", x.deliver(0, 0, 4, 240), 0);
        due("one SKIPPED", x.deliver(0, 0, 3, 240), 0);
        due("one SKIPPED", x.led(5), 1);
        due("no GAP", x.led(6), 0);
        Counted y = new Counted();
        project(y, 0, "sum of put by none");
        due("an empty LOG", y.deliver(0, 0, 1, 240), 0);
        due("TRUE", y.look(0, 0, 3), 1);
    }

    private static void deliverToNone() {
        Counted x = two();
        for (int p = 0; p < 4; p++) {
            due("no LIVE one", x.deliver(p, 0, 1, 1), STATE);
            due("none BESIDE", x.deliver(p, 1, 1, 1), STATE);
            due("BAD ahead of STATE", x.deliver(p, 0, 0, 1), BAD);
            due("BAD ahead of STATE", x.deliver(p, 1, 1, 241), BAD);
            due("BAD ahead of STATE", x.deliver(p, 2, 1, 1), BAD);
        }
        project(x, 2, "sum of put by none");
        due("none BESIDE", x.deliver(2, 1, 1, 1), STATE);
        due("another", x.deliver(1, 0, 1, 1), STATE);
        x.rebuild(2);
        due("one BESIDE", x.deliver(2, 1, 1, 1), 1);
        due("LIVE", x.look(2, 0, 0), 0);
    }

    private static void upcastersOfThen() {
        Counted x = two();
        project(x, 0, "sum of put by none");
        upcast(x, "put:a*2,b");
        x.deliver(0, 0, 1, 3);
        due("READ as of then", x.row(0, 0, 0), 100);
        upcast(x, "put:a+1,b");
        due("ROWS stay", x.row(0, 0, 0), 100);
        ask(x, 0, "put 7");
        x.deliver(0, 0, 4, 1);
        due("as of now", x.row(0, 0, 0), 107);
        ask(x, 0, "put 7");
        upcast(x, "put:a*10,b");
        x.deliver(0, 0, 5, 1);
        due("as of now", x.row(0, 0, 0), 177);
        x.rebuild(0);
        x.deliver(0, 1, 1, 240);
        due("all as of now", x.row(0, 1, 0), 1010 + 70 + 70);
    }

    private static void isTrue() {
        Counted x = two();
        project(x, 0, "sum of put by stream if a>9");
        due("of none", x.look(0, 0, 3), 1);
        x.deliver(0, 0, 1, 2);
        due("up to the CHECKPOINT alone", x.look(0, 0, 3), 1);
        upcast(x, "put:a+1,b");
        due("an EVENT behind it does not matter", x.look(0, 0, 3), 1);
        x.deliver(0, 0, 3, 1);
        due("as of now", x.look(0, 0, 3), 1);
        due("51", x.row(0, 0, 0), 51);
        upcast(x, "put:a-1,b");
        due("another ROW", x.look(0, 0, 3), 0);
        due("it stays LIVE", x.row(0, 0, 0), 51);
        x.rebuild(0);
        due("BESIDE: of none", x.look(0, 1, 3), 1);
        x.deliver(0, 1, 1, 3);
        due("BESIDE", x.look(0, 1, 3), 1);
        upcast(x, "put:a+1,b");
        due("as it was again", x.look(0, 0, 3), 1);
        due("BESIDE is not", x.look(0, 1, 3), 0);
        x = two();
        projected(x, 0, "count of put by stream if a>9");
        projected(x, 1, "count of put by stream if a<9");
        due("true", x.look(0, 0, 3), 1);
        due("true", x.look(1, 0, 3), 1);
        upcast(x, "put:a-45,b");
        due("a ROW that would not be", x.look(0, 0, 3), 0);
        due("a ROW that would be", x.look(1, 0, 3), 0);
        due("looking changes nothing", x.look(1, 0, 1), 0);
        due("looking counts nothing", x.led(4), 6);
        x = two();
        projected(x, 0, "count of put by stream");
        upcast(x, "put:a+1,b");
        due("count does not care", x.look(0, 0, 3), 1);
        projected(x, 1, "count of all by kind");
        projected(x, 2, "first of all by none");
        projected(x, 3, "sum of opened by stream");
        for (int p = 1; p < 4; p++) {
            due("from the first EVENT on", x.look(p, 0, 3), 1);
        }
        upcast(x, "opened:a+(a=7),b");
        due("count does not care", x.look(1, 0, 3), 1);
        due("the first EVENT", x.look(2, 0, 3), 0);
        due("the first EVENT", x.look(3, 0, 3), 0);
    }

    private static void swapEdges() {
        Counted x = two();
        due("no LIVE one", x.swap(0), STATE);
        project(x, 0, "sum of put by none");
        due("none BESIDE", x.swap(0), STATE);
        x.rebuild(0);
        due("0 is not less than 0", x.swap(0), 0);
        x.deliver(0, 0, 1, 2);
        rebuild(x, 0, "count of all by none");
        due("0 is less than 2", x.swap(0), STATE);
        x.deliver(0, 1, 1, 1);
        due("1 is less than 2", x.swap(0), STATE);
        due("still BESIDE", x.look(0, 1, 0), 1);
        due("still LIVE", x.look(0, 0, 0), 2);
        x.deliver(0, 1, 2, 1);
        due("2 is not less than 2", x.swap(0), 2);
        due("its ROWS", x.row(0, 0, 0), 2);
        x.rebuild(0);
        x.deliver(0, 1, 1, 3);
        due("3 is more", x.swap(0), 3);
        due("its ROWS", x.row(0, 0, 0), 3);
        due("-1", x.swap(-1), BAD);
        due("4", x.swap(4), BAD);
    }

    private static void noneBesideBehindSwap() {
        Counted x = two();
        project(x, 3, "sum of put by none");
        x.rebuild(3);
        x.deliver(3, 1, 1, 3);
        due("swapped", x.swap(3), 3);
        due("none BESIDE", x.look(3, 1, 0), VOID);
        due("none BESIDE", x.row(3, 1, 0), VOID);
        due("none BESIDE", x.deliver(3, 1, 1, 1), STATE);
        due("none BESIDE", x.swap(3), STATE);
        due("LIVE", x.row(3, 0, 0), 50);
        due("live ones", x.count(6), 1);
    }

    private static void lookEdges() {
        Counted x = two();
        ask(x, 1, "put 4");
        project(x, 0, "sum of put by stream");
        int[][] wants = {{0, 0, 4, 1, 0}, {1, 0, 3, 1, 0}, {2, 0, 2, 1, 0}, {3, 1, 1, 1, 50}, {4, 2, 0, 1, 54}};
        for (int checkpoint = 0; checkpoint <= 4; checkpoint++) {
            for (int what = 0; what < 5; what++) {
                due("look " + checkpoint + " " + what, x.look(0, 0, what), wants[checkpoint][what]);
            }
            x.deliver(0, 0, checkpoint + 1, 1);
        }
        ask(x, 1, "put 4");
        due("one more is not HANDLED", x.look(0, 0, 2), 1);
        upcast(x, "put:" + MOST_AS_C + ",b");
        projected(x, 1, "last of put by stream");
        due("the sum wraps", x.look(1, 0, 4), -2);
        for (int what : new int[] {LEAST, -1, 5, MOST}) {
            due("what " + what, x.look(0, 0, what), VOID);
        }
        for (int which : new int[] {LEAST, -1, 1, 2, MOST}) {
            due("which " + which, x.look(0, which, 0), VOID);
        }
        for (int p : new int[] {LEAST, -1, 2, 4, MOST}) {
            due("p " + p, x.look(p, 0, 0), VOID);
        }
    }

    private static void rowEdges() {
        Counted x = nineKinds();
        projected(x, 0, "count of all by kind");
        due("0", x.row(0, 0, 0), 2);
        due("8", x.row(0, 0, 8), 1);
        for (int key : new int[] {LEAST, -1, 9, MOST}) {
            due("key " + key, x.row(0, 0, key), VOID);
        }
        for (int which : new int[] {LEAST, -1, 1, 2, MOST}) {
            due("which " + which, x.row(0, which, 0), VOID);
        }
        for (int p : new int[] {LEAST, -1, 1, 4, MOST}) {
            due("p " + p, x.row(p, 0, 0), VOID);
        }
        projected(x, 1, "count of all by stream");
        due("no such ROW", x.row(1, 0, 8), VOID);
        due("no such ROW", x.row(1, 0, 2), VOID);
    }

    // ---- policies

    private static void fourPolicies() {
        Counted x = two();
        for (int p = 0; p < 4; p++) {
            due("none", x.policyOf(p, 0), STATE);
            due("none", x.run(p, 1), STATE);
            due("told", policy(x, p, "on put do price " + (p + 1)), 1);
            due("CHECKPOINT", x.policyOf(p, 0), 3);
        }
        ask(x, 0, "put 1");
        for (int p = 3; p >= 0; p--) {
            due("run", x.run(p, 1), 1);
            due("its own COMMAND", x.state(0, 3), p + 1);
            for (int q = 0; q < p; q++) {
                due("the others did not", x.policyOf(q, 0), 3);
            }
        }
        type(x, "on put do close");
        due("-1", x.policy(-1), BAD);
        due("4", x.policy(4), BAD);
        due("the tape stays", x.count(2), 15);
        due("told", x.policy(3), 1);
    }

    private static void policyCheckpoint() {
        Counted x = new Counted();
        policy(x, 0, "on all do put 1");
        due("none", x.policyOf(0, 0), 0);
        ask(x, 0, "open 1");
        due("the first", x.run(0, 1), 1);
        due("1", x.policyOf(0, 0), 1);
        policy(x, 1, "on put do put 1");
        due("all there are", x.policyOf(1, 0), 2);
        due("none behind", x.run(1, 240), 0);
        due("a FAULT", policy(x, 0, "on all do put"), -113);
        due("stays", x.policyOf(0, 0), 1);
        due("stays", x.policyOf(0, 1), 1);
        due("told anew", policy(x, 0, "on all do put 1"), 1);
        due("all there are", x.policyOf(0, 0), 2);
        x = filled(240);
        policy(x, 0, "on all do put 1");
        due("all there are", x.policyOf(0, 0), 240);
        due("none behind", x.run(0, 240), 0);
    }

    private static void heldWithin() {
        String[] texts = {"0", "1", "998", "999", "1000", "9999", "-1", "0-1", "0-9999", "a*9999*9999", MOST_AS_C,
            MOST_AS_C + "+1", "-" + MOST_AS_C, "a-50", "a+949", "a+950", "a/0"};
        int[] wants = {0, 1, 998, 999, 999, 999, 0, 0, 0, 999, 999, 0, 0, 0, 999, 999, 0};
        for (int i = 0; i < texts.length; i++) {
            Counted x = two();
            policy(x, 0, "on put do put (" + texts[i] + ")");
            ask(x, 0, "put 50");
            due("run", x.run(0, 1), 1);
            int want = i == 9 ? Math.max(0, Math.min(999, 50 * 9999 * 9999)) : wants[i];
            due(texts[i], x.event(5, 4), want);
        }
    }

    private static void runNumbers() {
        Counted x = two();
        policy(x, 0, "on put do price 9");
        for (int n : new int[] {LEAST, -1, 0, 241, MOST}) {
            due("n " + n, x.run(0, n), BAD);
        }
        for (int p : new int[] {LEAST, -1, 4, MOST}) {
            due("p " + p, x.run(p, 1), BAD);
        }
        due("BAD ahead of STATE", x.run(1, 0), BAD);
        due("BAD ahead of STATE", x.run(1, 241), BAD);
        due("STATE", x.run(1, 1), STATE);
        due("STATE", x.run(1, 240), STATE);
        due("none behind", x.run(0, 1), 0);
        batch(x, "0:put 1;0:take 1;0:put 1;0:put 1");
        due("one", x.run(0, 1), 1);
        due("one", x.policyOf(0, 0), 4);
        due("two, one of them not of its KINDS", x.run(0, 2), 2);
        due("two", x.policyOf(0, 0), 6);
        due("done", x.policyOf(0, 1), 2);
        due("the rest, and its own three", x.run(0, 240), 4);
        due("all", x.policyOf(0, 0), 10);
        due("none behind", x.run(0, 240), 0);
        due("done", x.policyOf(0, 1), 3);
    }

    private static void policyConditions() {
        Counted x = two();
        policy(x, 0, "on put+taken if a-5 do price (a)");
        batch(x, "0:put 5;0:put 4;0:take 6;0:hold 6;1:put 9");
        due("five", x.run(0, 5), 5);
        due("below 0 is not 0", x.policyOf(0, 1), 3);
        due("A", x.event(9, 4), 4);
        due("A", x.event(10, 4), 6);
        due("A", x.event(11, 4), 9);
        upcast(x, "put:a+100,s+7");
        policy(x, 1, "on put if b do price (b*10+s)");
        ask(x, 1, "put 1");
        due("as written now, b is 0", x.run(1, 1), 1);
        due("not asked", x.policyOf(1, 1), 0);
        ask(x, 1, "put 1");
        upcast(x, "put:a+100,s+7");
        due("READ", x.run(1, 1), 1);
        due("b, s", x.event(14, 4), 81);
        policy(x, 2, "on all if 0 do put 1");
        ask(x, 1, "put 1");
        due("never", x.run(2, 240), 1);
        due("never", x.policyOf(2, 1) + x.policyOf(2, 2), 0);
    }

    private static void policyStreams() {
        Counted x = two();
        policy(x, 0, "on put do take 1");
        policy(x, 1, "on priced do send (a) to 1");
        ask(x, 1, "put 4");
        x.run(0, 1);
        due("of 1", x.state(1, 1), 3);
        due("not of 0", x.state(0, 1), 50);
        ask(x, 0, "put 4");
        x.run(0, 2);
        due("of 0", x.state(0, 1), 53);
        ask(x, 0, "price 3");
        x.run(1, 240);
        due("sent by 0", x.state(0, 1), 50);
        due("got by 1", x.state(1, 1), 6);
        ask(x, 1, "price 3");
        x.run(1, 240);
        due("to itself: REFUSED", x.policyOf(1, 2), 1);
    }

    private static void policyRefused() {
        Counted x = two();
        policy(x, 0, "on put do take 60");
        policy(x, 1, "on put do open 1");
        batch(x, "0:put 1;0:put 20;0:put 1");
        due("handled", x.run(0, 3), 3);
        due("done", x.policyOf(0, 1), 1);
        due("REFUSED", x.policyOf(0, 2), 2);
        due("LED", x.led(3), 2);
        due("handled", x.run(1, 240), 4);
        due("REFUSED", x.policyOf(1, 2), 3);
        due("done", x.policyOf(1, 1), 0);
        due("LED", x.led(3), 5);
        due("askings done", x.led(0), 7);
    }

    private static void policyFull() {
        Counted x = filled(238);
        policy(x, 0, "on put do send 0 to 1");
        ask(x, 0, "put 1");
        due("no room for two", x.run(0, 1), 0);
        due("not handled", x.policyOf(0, 0), 238);
        due("neither done nor REFUSED", x.policyOf(0, 1) + x.policyOf(0, 2), 0);
        due("nothing came", x.count(0), 239);
        policy(x, 0, "on put do put 1");
        due("its own at 3", x.run(3, 240), 1);
        due("240", x.count(0), 240);
        due("done", x.policyOf(3, 1), 235);
        due("no room", x.run(3, 240), 0);
        due("no room", x.run(0, 240), 0);
        due("CHECKPOINT", x.policyOf(0, 0), 239);
        x = filled(237);
        policy(x, 0, "on put do take 999");
        policy(x, 1, "on taken do put 1");
        policy(x, 2, "on put do send 0 to 1");
        batch(x, "0:put 1;0:put 1;0:take 1");
        due("240", x.count(0), 240);
        due("REFUSED needs no room", x.run(0, 240), 3);
        due("REFUSED", x.policyOf(0, 2), 2);
        due("not of its KINDS needs no room", x.run(1, 240), 2);
        due("CHECKPOINT", x.policyOf(1, 0), 239);
        due("none", x.run(2, 240), 0);
        due("no LED", x.led(3), 2);
    }

    private static void policyOwnEvents() {
        Counted x = two();
        policy(x, 0, "on put if a do put (a-1)");
        ask(x, 0, "put 4");
        due("five: 4, 3, 2, 1, 0", x.run(0, 240), 5);
        due("stock", x.state(0, 1), 60);
        due("CHECKPOINT", x.policyOf(0, 0), 8);
        ask(x, 0, "put 4");
        due("n holds for them, too", x.run(0, 2), 2);
        due("stock", x.state(0, 1), 69);
        due("the rest", x.run(0, 240), 3);
        policy(x, 1, "on sent+got do send 1 to 1");
        ask(x, 0, "send 2 to 1");
        due("sent, got", x.run(1, 2), 2);
        due("of 1 to itself: REFUSED", x.policyOf(1, 2), 1);
        due("done", x.policyOf(1, 1), 1);
    }

    private static void policyOfEdges() {
        Counted x = two();
        for (int p = 0; p < 4; p++) {
            for (int what = 0; what < 3; what++) {
                due("none", x.policyOf(p, what), STATE);
            }
            due("BAD ahead of STATE", x.policyOf(p, 3), BAD);
            due("BAD ahead of STATE", x.policyOf(p, -1), BAD);
        }
        due("-1", x.policyOf(-1, 0), BAD);
        due("4", x.policyOf(4, 0), BAD);
        policy(x, 3, "on put do price 1");
        batch(x, "0:put 1;2:open 1");
        x.run(3, 240);
        int[] wants = {6, 1, 0};
        for (int what = 0; what < 3; what++) {
            due("what " + what, x.policyOf(3, what), wants[what]);
        }
        due("3", x.policyOf(3, 3), BAD);
        due("most", x.policyOf(3, MOST), BAD);
        due("least", x.policyOf(3, LEAST), BAD);
    }

    // ---- clients

    private static void fourClients() {
        Counted x = two();
        for (int client = 0; client < 4; client++) {
            due("none SEEN", x.attempt(client, 0), STATE);
            due("see", x.see(client, client), client == 0 ? 2 : client == 1 ? 1 : 0);
        }
        due("0", attempt(x, 0, 0, "put 1"), 3);
        due("1", attempt(x, 1, 0, "put 1"), 2);
        due("2", attempt(x, 2, 0, "open 1"), 1);
        due("3", attempt(x, 3, 0, "open 1"), 1);
        due("another STREAM", x.see(3, 0), 3);
        due("of that", attempt(x, 3, 0, "put 1"), 4);
        due("the other client", attempt(x, 0, 0, "put 1"), CONFLICT);
        for (int s : new int[] {LEAST, -1, 8, MOST}) {
            due("STREAM " + s, x.see(0, s), BAD);
        }
        for (int client : new int[] {LEAST, -1, 4, MOST}) {
            due("client " + client, x.see(client, 0), BAD);
        }
        due("last STREAM", x.see(0, 7), 0);
        due("of that", attempt(x, 0, 0, "open 1"), 1);
    }

    private static void harmlessKinds() {
        Counted x = new Counted();
        due("nothing", x.harmless(), 0);
        String words = "";
        for (int k = 0; k < 9; k++) {
            due("one", harmless(x, EdgesOfTexts.KIND_WORDS[k]), 1);
            words = k == 0 ? EdgesOfTexts.KIND_WORDS[k] : words + "+" + EdgesOfTexts.KIND_WORDS[k];
            due(words, harmless(x, words), k + 1);
        }
        due("all", harmless(x, "all"), 9);
        due("nothing", x.harmless(), 0);
        due("a word twice", harmless(x, "put+put"), 1);
        due("a word twice", harmless(x, "put+got+put"), 2);
    }

    private static void triedConflict() {
        Counted x = two();
        x.see(0, 0);
        ask(x, 1, "put 1");
        due("another STREAM does not matter", attempt(x, 0, 0, "put 1"), 3);
        ask(x, 0, "price 1");
        due("CONFLICT", attempt(x, 0, 0, "put 1"), CONFLICT);
        due("none is HARMLESS at first", attempt(x, 0, 1, "put 1"), CONFLICT);
        due("CONFLICTS", x.led(2), 2);
        due("ahead of REFUSED", attempt(x, 0, 0, "open 1"), CONFLICT);
        due("ahead of REFUSED", attempt(x, 0, 1, "open 1"), CONFLICT);
        due("none REFUSED", x.led(3), 0);
        due("a FAULT is ahead", attempt(x, 0, 0, "opens 1"), -100);
        due("CONFLICTS", x.led(2), 4);
        due("nothing came", x.count(0), 6);
        due("got counts, too", x.see(1, 1), 2);
        ask(x, 0, "send 1 to 1");
        due("got counts, too", attempt(x, 1, 0, "put 1"), CONFLICT);
        due("seen anew", x.see(0, 0), 5);
        due("no CONFLICT", attempt(x, 0, 0, "put 1"), 6);
    }

    private static void triedHarmless() {
        for (int k = 0; k < 9; k++) {
            Counted x = nineKinds();
            ask(x, 2, "open 1");
            x.see(0, 2);
            harmless(x, EdgesOfTexts.KIND_WORDS[k]);
            ask(x, 2, "put 0");
            due(EdgesOfTexts.KIND_WORDS[k], attempt(x, 0, 1, "put 0"), k == 1 ? 3 : CONFLICT);
        }
        Counted x = new Counted();
        harmless(x, "put");
        x.see(0, 0);
        ask(x, 0, "open 1");
        ask(x, 0, "put 1");
        due("the first EVENT of all is not", attempt(x, 0, 1, "put 1"), CONFLICT);
        harmless(x, "opened+put");
        due("all are", attempt(x, 0, 1, "put 1"), 3);
        x = two();
        harmless(x, "priced+held");
        x.see(0, 0);
        ask(x, 0, "price 1");
        ask(x, 0, "hold 1");
        due("not asked for", attempt(x, 0, 0, "put 1"), CONFLICT);
        due("all are", attempt(x, 0, 1, "put 1"), 5);
        batch(x, "0:price 1;0:free 1;0:price 1");
        due("one is not", attempt(x, 0, 1, "put 1"), CONFLICT);
        x.see(0, 0);
        batch(x, "0:hold 1;0:take 1");
        due("the last is not", attempt(x, 0, 1, "put 1"), CONFLICT);
        x.see(0, 0);
        batch(x, "1:take 0;0:price 3");
        due("another STREAM does not matter", attempt(x, 0, 1, "put 1"), 12);
        harmless(x, "");
        ask(x, 0, "price 1");
        due("none is", attempt(x, 0, 1, "put 1"), CONFLICT);
        harmless(x, "all");
        due("all are", attempt(x, 0, 1, "put 1"), 14);
        harmless(x, "got");
        x.see(1, 1);
        ask(x, 0, "send 1 to 1");
        due("got", attempt(x, 1, 1, "put 1"), 4);
        due("a FAULT", harmless(x, "gots"), -100);
        ask(x, 0, "send 1 to 1");
        due("it stays", attempt(x, 1, 1, "put 1"), 6);
    }

    private static void triedSeen() {
        Counted x = new Counted();
        x.see(0, 2);
        due("the first", attempt(x, 0, 0, "open 1"), 1);
        due("it has SEEN 1", attempt(x, 0, 0, "put 1"), 2);
        x = two();
        x.see(0, 0);
        due("done", attempt(x, 0, 0, "put 1"), 3);
        due("it has SEEN 3", attempt(x, 0, 0, "put 1"), 4);
        due("a send", attempt(x, 0, 0, "send 1 to 1"), 5);
        due("it has SEEN 5", attempt(x, 0, 0, "put 1"), 6);
        harmless(x, "priced");
        ask(x, 0, "price 1");
        due("REFUSED", attempt(x, 0, 1, "open 1"), -22);
        due("it has not SEEN 7", attempt(x, 0, 0, "put 1"), CONFLICT);
        due("CONFLICT leaves it, too", attempt(x, 0, 1, "put 1"), 8);
        due("it has SEEN 8", attempt(x, 0, 0, "put 1"), 9);
        due("EVENTS", x.count(0), 11);
    }

    private static void triedRefused() {
        Counted x = two();
        for (int client = 0; client < 3; client++) {
            x.see(client, client);
        }
        due("21", attempt(x, 2, 0, "put 1"), -21);
        due("22", attempt(x, 0, 0, "open 1"), -22);
        due("23", attempt(x, 0, 0, "take 51"), -23);
        due("24", attempt(x, 0, 0, "close"), -24);
        due("25", attempt(x, 0, 0, "send 1 to 2"), -25);
        due("REFUSED", x.led(3), 5);
        due("none done", x.led(0), 3);
        due("close", attempt(x, 1, 0, "close"), 2);
        x = filled(239);
        x.see(0, 0);
        due("FULL", attempt(x, 0, 0, "send 1 to 1"), FULL);
        due("room for one", attempt(x, 0, 0, "put 1"), 239);
        due("FULL", attempt(x, 0, 0, "put 1"), FULL);
        due("REFUSED needs no room", attempt(x, 0, 0, "open 1"), -22);
        due("FULL", attempt(x, 0, 1, "put 1"), FULL);
    }

    private static void triedUnseen() {
        Counted x = two();
        x.see(1, 0);
        type(x, "puts 1");
        for (int client = 0; client < 4; client++) {
            if (client != 1) {
                due("SEEN none", x.attempt(client, 0), STATE);
                due("SEEN none", x.attempt(client, 1), STATE);
            }
            due("BAD ahead of STATE", x.attempt(client, 2), BAD);
            due("BAD ahead of STATE", x.attempt(client, -1), BAD);
        }
        for (int client : new int[] {LEAST, -1, 4, MOST}) {
            due("client " + client, x.attempt(client, 0), BAD);
        }
        due("THE TAPE stays", x.count(2), 6);
        due("the FAULT", x.attempt(1, 0), -100);
        due("THE TAPE is read", x.count(2), 0);
        due("BAD see is none", x.see(0, 8), BAD);
        type(x, "put 1");
        due("SEEN none", x.attempt(0, 0), STATE);
        due("it is read", x.attempt(1, 0), 3);
    }

    // ---- watches

    /** Bin 0 has STOCK 0, 0, 50, 20, 25, 75, 15, 0 at VERSIONS 0 to 7. */
    private static Counted watched() {
        Counted x = two();
        batch(x, "0:take 30;0:put 5;0:put 50;0:take 60;1:put 9;0:take 15");
        return x;
    }

    private static void watchFirst() {
        Counted x = watched();
        due("k>20", watch(x, 0, 0, "k>20"), 2);
        due("k=0", watch(x, 0, 0, "k=0"), 0);
        due("o", watch(x, 0, 0, "o"), 1);
        due("v=7", watch(x, 0, 0, "v=7"), 7);
        due("v=8", watch(x, 0, 0, "v=8"), NOT);
        due("k>75", watch(x, 0, 0, "k>75"), NOT);
        due("k>74", watch(x, 0, 0, "k>74"), 5);
        due("below 0 is not 0", watch(x, 0, 0, "k-20"), 0);
        due("0", watch(x, 0, 0, "0"), NOT);
        due("1", watch(x, 0, 0, "1"), 0);
        due("without EVENTS", watch(x, 7, 0, "1"), 0);
        due("without EVENTS", watch(x, 7, 0, "o"), NOT);
        upcast(x, "put:a*2,b");
        due("READ now", watch(x, 0, 0, "k>75"), 2);
    }

    private static void watchTimes() {
        Counted x = watched();
        due("k>20", watch(x, 0, 1, "k>20"), 3);
        due("k=0", watch(x, 0, 1, "k=0"), 3);
        due("0", watch(x, 0, 1, "0"), 0);
        due("1", watch(x, 0, 1, "1"), 8);
        due("k", watch(x, 0, 1, "k"), 5);
        due("-k", watch(x, 0, 1, "-k"), 5);
        due("k-20", watch(x, 0, 1, "k-20"), 7);
        due("without EVENTS", watch(x, 7, 1, "1"), 1);
        due("another STREAM", watch(x, 1, 1, "1"), 3);
    }

    private static void watchLongest() {
        Counted x = watched();
        due("k>20", watch(x, 0, 2, "k>20"), 2);
        due("k=0", watch(x, 0, 2, "k=0"), 2);
        due("0", watch(x, 0, 2, "0"), 0);
        due("1", watch(x, 0, 2, "1"), 8);
        due("at the end", watch(x, 0, 2, "v>4"), 3);
        due("at the beginning", watch(x, 0, 2, "v<4"), 4);
        due("the first is the longest", watch(x, 0, 2, "(v<3)+(v=4)+(v>5)"), 3);
        due("the last is the longest", watch(x, 0, 2, "(v<2)+(v=3)+(v>4)"), 3);
        due("every other", watch(x, 0, 2, "v%2"), 1);
        due("EVENTS of others between", watch(x, 0, 2, "v>5"), 2);
    }

    private static void watchLast() {
        Counted x = watched();
        due("k>20", watch(x, 0, 3, "k>20"), 5);
        due("k=0", watch(x, 0, 3, "k=0"), 7);
        due("o=0", watch(x, 0, 3, "o=0"), 0);
        due("0", watch(x, 0, 3, "0"), NOT);
        due("1", watch(x, 0, 3, "1"), 7);
        due("k>75", watch(x, 0, 3, "k>75"), NOT);
        due("without EVENTS", watch(x, 7, 3, "1"), 0);
        type(x, "1");
        for (int what : new int[] {LEAST, -1, 4, MOST}) {
            due("what " + what, x.watch(0, what), BAD);
        }
        for (int s : new int[] {LEAST, -1, 8, MOST}) {
            due("STREAM " + s, x.watch(s, 0), BAD);
        }
        due("THE TAPE stays", x.count(2), 1);
    }

    private static void watchLetters() {
        Counted x = two();
        batch(x, "0:hold 20;0:price 9;0:free 20;0:take 50;0:close");
        due("o: 2", watch(x, 0, 0, "o=2"), 7);
        due("o: 1", watch(x, 0, 1, "o=1"), 6);
        due("k", watch(x, 0, 3, "k=50"), 5);
        due("h", watch(x, 0, 1, "h=20"), 2);
        due("h", watch(x, 0, 0, "h"), 3);
        due("p", watch(x, 0, 0, "p=9"), 4);
        due("p", watch(x, 0, 1, "p=7"), 3);
        due("v", watch(x, 0, 0, "v>3"), 4);
        due("all", watch(x, 0, 0, "o*9999+k*100+h*10+p+v=9999+5210"), 3);
    }

    // ---- foreseen

    private static void foreseeRefused() {
        String text = "0:put 5;0:send 10 to 1;1:price 9;0:hold 3;2:put 1;0:put 1";
        long[] wants = {4, 5, 1, 45, 3, 7};
        long[] others = {4, 5, 1, 10, 0, 9};
        for (int what = 0; what < 6; what++) {
            Counted x = two();
            due("0: " + what, foresee(x, 0, what, text), wants[what]);
            due("1: " + what, foresee(x, 1, what, text), others[what]);
        }
        Counted x = two();
        due("the first", foresee(x, 0, 0, "0:take 51"), 0);
        due("the first", foresee(x, 0, 1, "0:take 51"), 0);
        due("as it is", foresee(x, 0, 3, "0:take 51"), 50);
        due("the last", foresee(x, 0, 0, "0:put 1;0:put 1;0:take 53"), 2);
        due("none", foresee(x, 0, 0, "0:put 1;0:put 1;0:take 52"), 3);
        due("none", foresee(x, 0, 3, "0:put 1;0:put 1;0:take 52"), 0);
        due("one that closes", foresee(x, 1, 2, "1:close;1:put 1"), 2);
        due("one that opens", foresee(x, 7, 5, "7:open 9;7:open 1"), 9);
        due("untouched", foresee(x, 6, 2, "7:open 9;7:open 1"), 0);
    }

    private static void foreseeFull() {
        Counted x = filled(237);
        due("lines", foresee(x, 0, 0, "0:put 1;0:put 1;0:put 1;0:put 1"), 3);
        due("EVENTS", foresee(x, 0, 1, "0:put 1;0:put 1;0:put 1;0:put 1"), 3);
        due("stock", foresee(x, 0, 3, "0:put 1;0:put 1;0:put 1;0:put 1"), 50 + 234 + 3);
        due("a send", foresee(x, 0, 0, "0:send 1 to 1;0:send 1 to 1;0:put 1"), 1);
        due("a send", foresee(x, 0, 1, "0:send 1 to 1;0:send 1 to 1;0:put 1"), 2);
        due("a send", foresee(x, 1, 3, "0:send 1 to 1;0:send 1 to 1;0:put 1"), 1);
        x = filled(240);
        due("none", foresee(x, 0, 0, "0:put 1"), 0);
        due("none", foresee(x, 0, 1, "0:put 1"), 0);
    }

    private static void foreseeChangesNothing() {
        Counted x = two();
        x.every(1);
        foresee(x, 0, 0, "0:put 5;0:send 10 to 1;0:price 9;2:open 3;0:take 99");
        due("EVENTS", x.count(0), 3);
        due("SNAPSHOTS", x.count(5), 0);
        due("stock", x.state(0, 1), 50);
        due("price", x.state(0, 3), 7);
        due("open", x.state(2, 0), 0);
        due("askings", x.led(0), 3);
        due("REFUSED", x.led(3), 0);
        type(x, "0:put 1");
        for (int what : new int[] {LEAST, -1, 6, MOST}) {
            due("what " + what, x.foresee(0, what), Long.MIN_VALUE);
        }
        for (int s : new int[] {LEAST, -1, 8, MOST}) {
            due("STREAM " + s, x.foresee(s, 0), Long.MIN_VALUE);
        }
        due("THE TAPE stays", x.count(2), 7);
        due("it is read", x.foresee(7, 5), 0);
        due("the empty text", x.foresee(0, 0), Long.MIN_VALUE + 100);
        due("a FAULT", foresee(x, 0, 0, "0:put 1;8:put 1"), Long.MIN_VALUE + 108);
    }

    // ---- tally, digest

    private static void tallyEdges() {
        Counted x = two();
        batch(x, "0:put 9;1:put 60;0:take 8");
        due("all", x.tally(1, 1, 6, 0), 3);
        due("without the first", x.tally(1, 4, 6, 0), 2);
        due("without the last", x.tally(1, 1, 4, 0), 2);
        due("one", x.tally(1, 3, 3, 0), 1);
        due("one that is not", x.tally(1, 1, 1, 0), 0);
        due("the first", x.tally(0, 1, 1, 0), 1);
        due("the last", x.tally(2, 6, 6, 0), 1);
        due("KIND 8", x.tally(8, 1, 6, 0), 0);
        for (int kind : new int[] {LEAST, -1, 9, MOST}) {
            due("KIND " + kind, x.tally(kind, 1, 6, 0), VOID);
        }
        for (int from : new int[] {LEAST, -1, 0, 7, MOST}) {
            due("from " + from, x.tally(1, from, 6, 0), VOID);
        }
        for (int to : new int[] {LEAST, -1, 0, 7, 240, MOST}) {
            due("to " + to, x.tally(1, 1, to, 0), VOID);
        }
        for (int what : new int[] {LEAST, -1, 3, MOST}) {
            due("what " + what, x.tally(1, 1, 6, what), VOID);
        }
        due("the former above the latter", x.tally(1, 4, 3, 0), VOID);
        due("the former above the latter", x.tally(1, 6, 1, 0), VOID);
        due("an empty LOG", new Counted().tally(1, 1, 1, 0), VOID);
        due("an empty LOG", new Counted().tally(1, 0, 0, 0), VOID);
        due("a full LOG", filled(240).tally(1, 1, 240, 0), 238);
    }

    private static void tallySums() {
        Counted x = two();
        batch(x, "0:put 9;1:put 60;0:take 8");
        due("sum", x.tally(1, 1, 6, 1), 119);
        due("most", x.tally(1, 1, 6, 2), 60);
        due("most of the first", x.tally(1, 1, 4, 2), 50);
        due("sum of none", x.tally(3, 1, 6, 1), 0);
        due("most of none", x.tally(3, 1, 6, 2), VOID);
        due("most of none there", x.tally(1, 1, 2, 2), VOID);
        upcast(x, "put:a-100,b");
        due("most below 0", x.tally(1, 1, 6, 2), -40);
        due("sum below 0", x.tally(1, 1, 6, 1), 119 - 300);
        upcast(x, "put:" + MOST_AS_C + "+a+50,b");
        due("the sum wraps", x.tally(1, 3, 4, 1), MOST + (MOST - 41));
        due("the most as ints are", x.tally(1, 3, 5, 2), MOST);
        due("the most as ints are", x.tally(1, 5, 5, 2), LEAST + 9);
    }

    private static long digestOf(String texts) {
        long d = 7;
        for (int i = 0; i < texts.length(); i++) {
            d = (d * 31 + texts.charAt(i)) % (1L << 32);
        }
        return d;
    }

    private static void digestEdges() {
        Counted x = two();
        String texts = "";
        due("0", x.digest(0), 7);
        String[] each = {"1:opened 0.1 a=7 b=0 f1", "2:opened 1.1 a=3 b=0 f1", "3:put 0.2 a=50 b=0 f1"};
        for (int i = 0; i < 3; i++) {
            texts += each[i];
            due("up to " + (i + 1), x.digest(i + 1), digestOf(texts));
        }
        for (int position : new int[] {LEAST, -1, 4, 240, MOST}) {
            due("" + position, x.digest(position), BAD);
        }
        due("of an empty LOG", new Counted().digest(0), 7);
        due("of an empty LOG", new Counted().digest(1), BAD);
        x = filled(240);
        texts = each[0] + each[1] + each[2] + "4:put 0.3 a=1 b=0 f1";
        int above = 0;
        for (int i = 5; i <= 240; i++) {
            texts += i + ":put 0." + (i - 1) + " a=1 b=0 f1";
            long digest = x.digest(i);
            above += digest > MOST ? 1 : 0;
            due("up to " + i, digest, digestOf(texts));
        }
        due("some have the 32nd bit", above > 0 ? 1 : 0, 1);
        due("241", x.digest(241), BAD);
    }

    // ---- the image

    private static void backOfNone() {
        Counted x = two();
        due("none", x.back(), STATE);
        due("nothing changed", x.count(0), 3);
        due("kept", x.image(), 3);
        ask(x, 0, "put 1");
        due("back", x.back(), 3);
        x = new Counted();
        due("an empty one", x.image(), 0);
        ask(x, 0, "open 1");
        due("back to the empty one", x.back(), 0);
        due("nothing there", x.count(0), 0);
        due("nothing there", x.state(0, 0), 0);
    }

    private static void imageOfLog() {
        Counted x = two();
        x.image();
        batch(x, "0:take 5;1:put 8;2:open 4");
        due("back", x.back(), 3);
        due("EVENTS", x.count(0), 3);
        due("STREAMS", x.count(3), 2);
        due("stock", x.state(0, 1), 50);
        due("version", x.state(0, 4), 2);
        due("another", x.state(1, 1), 0);
        due("another", x.state(2, 0), 0);
        due("event", x.event(4, 0), VOID);
        due("find", x.find(0, 3), BAD);
        due("digest", x.digest(4), BAD);
        due("it goes on", ask(x, 0, 2, 0, "take 7"), 3);
        due("from there", x.event(4, 4), 7);
        same("from there", textOf(x, 4), "4:taken 0.3 a=7 b=0 f1");
    }

    private static void imageOfFormats() {
        Counted x = two();
        upcast(x, "put:a+1,b");
        x.snap(0);
        x.every(3);
        ask(x, 0, -1, 5, "put 9");
        x.image();
        upcast(x, "put:a*2,b");
        upcast(x, "got:a*2,b");
        x.snap(0);
        x.snap(1);
        x.every(1);
        ask(x, 0, -1, 6, "put 9");
        x.back();
        due("UPCASTERS", x.count(1), 1);
        due("READ", x.event(3, 6), 51);
        due("READ", x.event(4, 6), 9);
        due("stock", x.state(0, 1), 60);
        due("SNAPSHOTS", x.count(5), 2);
        due("SNAPSHOTS", x.snaps(0, 0), 2);
        due("GOOD", x.snaps(0, 1), 2);
        due("of another", x.snaps(1, 0), 0);
        due("STEPS", x.steps(0, 3), 0);
        due("EVERY", x.count(7), 3);
        due("NUMBERS", x.count(4), 1);
        due("REPEATED", ask(x, 0, -1, 5, "put 9"), 3);
        due("not REPEATED", ask(x, 0, -1, 6, "put 9"), 4);
        due("by the FORMAT of then", x.event(5, 3), 2);
        due("FORMAT", upcast(x, "put:a,b"), 3);
        due("FORMAT", upcast(x, "got:a,b"), 2);
    }

    private static void imageOfSnapshots() {
        Counted x = two();
        x.snap(0);
        upcast(x, "got:a,b");
        for (int i = 0; i < 3; i++) {
            ask(x, 0, "put 1");
            x.snap(0);
        }
        x.image();
        for (int i = 0; i < 3; i++) {
            ask(x, 0, "put 1");
            x.snap(0);
        }
        due("three of then are gone", x.steps(0, 4), 4);
        due("GOOD", x.snaps(0, 1), 4);
        due("back", x.back(), 6);
        due("kept", x.snaps(0, 0), 4);
        due("GOOD", x.snaps(0, 1), 3);
        int[] wants = {0, 1, 2, 0, 0, 0};
        for (int version = 0; version <= 5; version++) {
            due("STEPS to " + version, x.steps(0, version), wants[version]);
        }
    }

    private static void imageOfProjections() {
        Counted x = two();
        projected(x, 0, "sum of put by stream");
        project(x, 1, "sum of all by none");
        rebuild(x, 1, "count of all by none");
        x.deliver(1, 1, 1, 2);
        x.image();
        ask(x, 0, "put 5");
        x.deliver(0, 0, 4, 1);
        x.deliver(1, 1, 3, 2);
        x.swap(1);
        project(x, 0, "last of all by kind");
        project(x, 2, "sum of all by none");
        x.back();
        due("LIVE ones", x.count(6), 2);
        due("CHECKPOINT", x.look(0, 0, 0), 3);
        due("ROW", x.row(0, 0, 0), 50);
        due("LIVE", x.look(1, 0, 0), 0);
        due("BESIDE", x.look(1, 1, 0), 2);
        due("BESIDE", x.row(1, 1, 0), 2);
        due("none", x.look(2, 0, 0), VOID);
        x.deliver(0, 0, 1, 240);
        x.deliver(1, 1, 1, 240);
        due("BESIDE goes on", x.row(1, 1, 0), 3);
        x.back();
        due("again", x.row(1, 1, 0), 2);
        due("again", x.look(1, 1, 0), 2);
        x.rebuild(0);
        x.deliver(0, 1, 1, 240);
        due("the text of then", x.row(0, 1, 0), 50);
    }

    private static void imageOfClients() {
        Counted x = two();
        policy(x, 0, "on put do price 9");
        policy(x, 2, "on put do open 9");
        ask(x, 0, "put 1");
        x.run(0, 1);
        x.run(2, 1);
        harmless(x, "priced");
        x.see(0, 0);
        x.image();
        ask(x, 0, "put 1");
        x.run(0, 9);
        x.run(2, 9);
        policy(x, 1, "on put do price 9");
        policy(x, 0, "on all do put 1");
        harmless(x, "");
        x.see(0, 1);
        x.see(1, 1);
        x.back();
        due("CHECKPOINT", x.policyOf(0, 0), 4);
        due("done", x.policyOf(0, 1), 1);
        due("REFUSED", x.policyOf(2, 2), 1);
        due("no policy 1", x.policyOf(1, 0), STATE);
        due("SEEN none", x.attempt(1, 0), STATE);
        ask(x, 0, "price 2");
        due("SEEN 4", attempt(x, 0, 0, "put 1"), CONFLICT);
        due("HARMLESS", attempt(x, 0, 1, "put 1"), 6);
        due("the text of then", x.run(0, 240), 4);
        due("the text of then", x.event(8, 2), 5);
        x.back();
        due("again", x.policyOf(0, 0), 4);
        due("again", x.policyOf(0, 1), 1);
        due("again", attempt(x, 0, 0, "put 1"), 5);
    }

    private static void imageOfLed() {
        Counted x = two();
        ask(x, 0, -1, 5, "put 1");
        ask(x, 0, -1, 5, "put 1");
        ask(x, 0, 9, 0, "put 1");
        ask(x, 0, "open 1");
        project(x, 0, "sum of all by none");
        x.deliver(0, 0, 1, 2);
        x.deliver(0, 0, 2, 1);
        x.deliver(0, 0, 4, 1);
        x.image();
        int[] wants = {4, 1, 1, 1, 2, 1, 1};
        for (int what = 0; what < 7; what++) {
            due("led " + what, x.led(what), wants[what]);
        }
        ask(x, 0, -1, 6, "put 1");
        ask(x, 0, -1, 5, "put 1");
        ask(x, 0, 9, 0, "put 1");
        ask(x, 0, "open 1");
        x.deliver(0, 0, 2, 3);
        x.deliver(0, 0, 9, 1);
        x.deliver(0, 0, 1, 1);
        x.back();
        for (int what = 0; what < 7; what++) {
            due("led " + what, x.led(what), wants[what]);
        }
    }

    private static void imageWithoutTape() {
        Counted x = two();
        type(x, "put");
        x.image();
        type(x, " 7");
        due("back", x.back(), 3);
        due("THE TAPE is as it was", x.count(2), 5);
        due("it is read", x.ask(0, -1, 0), 3);
        due("7", x.event(4, 4), 7);
        x.back();
        due("an empty one stays empty", x.count(2), 0);
    }

    private static void imageWhenFull() {
        Counted x = filled(240);
        due("240", x.image(), 240);
        due("back", x.back(), 240);
        due("FULL", ask(x, 0, "put 1"), FULL);
        due("digest", x.digest(240) > 0 ? 1 : 0, 1);
        Counted y = filled(238);
        y.image();
        batch(y, "0:put 1;0:put 1");
        due("FULL", ask(y, 0, "put 1"), FULL);
        due("back", y.back(), 238);
        due("room again", batch(y, "0:put 1;0:put 1"), 2);
    }

    private static void imageStays() {
        Counted x = two();
        x.image();
        for (int i = 0; i < 3; i++) {
            ask(x, 0, "put 1");
            upcast(x, "put:a+1,b");
            x.snap(0);
            due("back", x.back(), 3);
            due("stock", x.state(0, 1), 50);
            due("UPCASTERS", x.count(1), 0);
            due("SNAPSHOTS", x.count(5), 0);
        }
        ask(x, 0, "put 1");
        due("another one", x.image(), 4);
        ask(x, 0, "put 1");
        due("back to that", x.back(), 4);
    }

    // ---- what was done

    private static void ledEdges() {
        Counted x = two();
        int[] wants = new int[7];
        wants[0] = 3;
        ask(x, 0, -1, 7, "send 1 to 1");
        wants[0]++;
        ask(x, 0, -1, 7, "send 1 to 1");
        wants[1]++;
        batch(x, "0:put 1;0:put 1;0:put 1");
        wants[0] += 3;
        policy(x, 0, "on put do take 1");
        policy(x, 1, "on put do open 1");
        ask(x, 0, "put 1");
        wants[0]++;
        x.run(0, 1);
        wants[0]++;
        x.run(1, 1);
        wants[3]++;
        x.see(0, 0);
        attempt(x, 0, 0, "put 1");
        wants[0]++;
        attempt(x, 0, 0, "take 99");
        wants[3]++;
        ask(x, 0, 0, 0, "put 1");
        wants[2]++;
        ask(x, 0, "put 1");
        wants[0]++;
        attempt(x, 0, 0, "put 1");
        wants[2]++;
        project(x, 0, "sum of all by none");
        x.deliver(0, 0, 1, 5);
        wants[4] += 5;
        x.deliver(0, 0, 4, 3);
        wants[5] += 2;
        wants[4]++;
        x.deliver(0, 0, 8, 3);
        wants[6]++;
        for (int what = 0; what < 7; what++) {
            due("led " + what, x.led(what), wants[what]);
        }
        for (int what : new int[] {LEAST, -1, 7, 8, MOST}) {
            due("led " + what, x.led(what), BAD);
        }
    }

    private static void countEdges() {
        Counted x = two();
        ask(x, 0, -1, 7, "put 1");
        upcast(x, "put:a,b");
        upcast(x, "got:a,b");
        upcast(x, "got:a,b");
        project(x, 0, "sum of all by none");
        project(x, 3, "sum of all by none");
        x.rebuild(3);
        x.snap(5);
        x.snap(0);
        x.snap(0);
        x.every(19);
        type(x, "abcde");
        int[] wants = {4, 3, 5, 2, 1, 3, 2, 19};
        for (int what = 0; what < 8; what++) {
            due("count " + what, x.count(what), wants[what]);
        }
        for (int what : new int[] {LEAST, -1, 8, 9, MOST}) {
            due("count " + what, x.count(what), BAD);
        }
    }
}

/** Block 1 of the terms: THE TAPE, WORDS, FAULTS, numbers, C, UPCASTERS. Each sentence with an edge has its test. */
public final class EdgesOfTexts extends ByHand {
    private static final int OK = -1;

    /** What reads a text; each call on an object of its own: the FAULT, or OK. */
    interface Reader {
        int fault(String text);
    }

    static final Reader[] COMMANDS = {EdgesOfTexts::asks, EdgesOfTexts::attempts};
    static final Reader[] BATCHES = {EdgesOfTexts::batches, EdgesOfTexts::foresees};
    static final Reader[] UPCASTERS = {EdgesOfTexts::upcasts};
    static final Reader[] PROJECTIONS = {EdgesOfTexts::projects, EdgesOfTexts::rebuilds};
    static final Reader[] POLICIES = {EdgesOfTexts::policies};
    static final Reader[] KINDS = {EdgesOfTexts::harms};
    static final Reader[] WATCHES = {EdgesOfTexts::watches};

    static final String[] KIND_WORDS = {"opened", "put", "taken", "held", "freed", "priced", "sent", "got", "closed"};

    public static void main(String[] args) {
        edge("THE TAPE holds 0 .. 160 bytes", EdgesOfTexts::tapeHolds160);
        edge("bytes 1 .. 255", EdgesOfTexts::bytes1to255);
        edge("feed: FULL leaves the tape as it is", EdgesOfTexts::fullLeavesTheTape);
        edge("A WORD is as many of a .. z as stand there", EdgesOfTexts::wordsAreAsLongAsLetters);
        edge("FAULT: where a WORD begins that may not stand there: a COMMAND", EdgesOfTexts::wordsOfCommands);
        edge("FAULT: where a WORD begins that may not stand there: an UPCASTER", EdgesOfTexts::wordsOfUpcasters);
        edge("FAULT: where a WORD begins that may not stand there: a PROJECTION", EdgesOfTexts::wordsOfProjections);
        edge("FAULT: where a WORD begins that may not stand there: a POLICY", EdgesOfTexts::wordsOfPolicies);
        edge("FAULT: where a WORD begins that may not stand there: KINDS", EdgesOfTexts::wordsOfKinds);
        edge("FAULT: where a WORD begins that may not stand there: a C", EdgesOfTexts::wordsOfC);
        edge("FAULT: or a number that may not be: n", EdgesOfTexts::numbersOfCommands);
        edge("FAULT: or a number that may not be: S, STREAM", EdgesOfTexts::numbersOfStreams);
        edge("Numbers have 1 to 4 figures: in a C", EdgesOfTexts::numbersOfC);
        edge("A fifth figure is the FAULT at it, if the four may be", EdgesOfTexts::fifthFigures);
        edge("A STREAM may have two figures (07)", EdgesOfTexts::twoFigures);
        edge("the first byte with which no such text goes on", EdgesOfTexts::otherBytes);
        edge("the length, if it ends too early", EdgesOfTexts::endsTooEarly);
        edge("the length, if it ends too early: 160 bytes", EdgesOfTexts::endsAt160);
        edge("Nothing stands between but what is told", EdgesOfTexts::nothingBetween);
        edge("the first place that can't be so is the FAULT, whatever stands behind it", EdgesOfTexts::firstPlace);
        edge("What reads THE TAPE empties it", EdgesOfTexts::readingEmpties);
        edge("C: E < E, E = E, E > E (1, 0)", EdgesOfTexts::comparisons);
        edge("C: E, or one comparison", EdgesOfTexts::oneComparison);
        edge("E = S { + S, - S }. S = O { * O, / O, % O }", EdgesOfTexts::sumsAndProducts);
        edge("O: a number, a, b, s (A, B, STREAM), - O, ( C )", EdgesOfTexts::operands);
        edge("At most 6 of - ahead of an O and ( are open at once", EdgesOfTexts::sixOpen);
        edge("At most 6 are open at once: in each text that has a C", EdgesOfTexts::sixOpenEverywhere);
        edge("At most 6 are open at once: more behind one another", EdgesOfTexts::openBehindOneAnother);
        edge("At most 6 are open at once: the ( of a policy's n is one", EdgesOfTexts::openInPolicies);
        edge("Ints that wrap", EdgesOfTexts::intsThatWrap);
        edge("/ and % toward 0", EdgesOfTexts::towardZero);
        edge("by 0 they give 0", EdgesOfTexts::byZero);
        edge("A C as long as THE TAPE, and as deep as may be", EdgesOfTexts::longAndDeep);
        edge("A KIND has 3 at most; its FORMAT is how many, and 1", EdgesOfTexts::threeUpcasters);
        edge("upcast: FULL: it has 3 (THE TAPE is empty, too)", EdgesOfTexts::fullUpcasters);
        edge("the first for A, the second for B, both of a, b as they were", EdgesOfTexts::bothAsTheyWere);
        edge("In an UPCASTER s is the STREAM", EdgesOfTexts::streamInUpcasters);
        edge("EVENTS are written in the FORMAT of then", EdgesOfTexts::formatOfThen);
        edge("READ: by the f-th UPCASTER of its KIND, then the next, to the last", EdgesOfTexts::readFromFormatOn);
        edge("ERA: how many UPCASTERS there are in all", EdgesOfTexts::eraOfAll);
        end("EdgesOfTexts");
    }

    // ---- what reads a text

    private static int faultOf(int answer) {
        return answer <= -100 && answer > -300 ? -100 - answer : OK;
    }

    private static int asks(String text) {
        return faultOf(ask(two(), 0, text));
    }

    private static int attempts(String text) {
        Counted x = two();
        x.see(0, 0);
        return faultOf(attempt(x, 0, 0, text));
    }

    private static int batches(String text) {
        return faultOf(batch(two(), text));
    }

    private static int foresees(String text) {
        long answer = foresee(two(), 0, 0, text);
        return answer < 0 ? (int) (answer - Long.MIN_VALUE - 100) : OK;
    }

    private static int upcasts(String text) {
        return faultOf(upcast(two(), text));
    }

    private static int projects(String text) {
        return faultOf(project(two(), 0, text));
    }

    private static int rebuilds(String text) {
        Counted x = two();
        project(x, 0, "sum of all by none");
        return faultOf(rebuild(x, 0, text));
    }

    private static int policies(String text) {
        return faultOf(policy(two(), 0, text));
    }

    private static int harms(String text) {
        return faultOf(harmless(two(), text));
    }

    private static int watches(String text) {
        return faultOf(watch(two(), 0, 1, text));
    }

    private static void fault(Reader[] readers, String text, int want) {
        for (Reader reader : readers) {
            due("the FAULT of \"" + text + "\"", reader.fault(text), want);
        }
    }

    /** A C (in letters a, b, s) where each text may have one, whose FAULT is so far behind its beginning. */
    private static void faultOfC(String c, int want) {
        fault(UPCASTERS, "put:" + c + ",0", want == OK ? OK : 4 + want);
        fault(UPCASTERS, "put:0," + c, want == OK ? OK : 6 + want);
        fault(PROJECTIONS, "sum of all by none if " + c, want == OK ? OK : 22 + want);
        fault(POLICIES, "on all if " + c + " do close", want == OK ? OK : 10 + want);
        fault(WATCHES, c.replace('a', 'o').replace('b', 'k').replace('s', 'h'), want);
    }

    /** The FAULTS of a text cut off at 0, 1, 2 .. bytes, and of the whole text. */
    private static void prefixes(Reader[] readers, String text, int... wants) {
        due("the test's own table for " + text, wants.length, text.length() + 1);
        for (int length = 0; length < wants.length && length <= text.length(); length++) {
            fault(readers, text.substring(0, length), wants[length]);
        }
    }

    // ---- the tape

    private static void tapeHolds160() {
        Counted x = new Counted();
        due("an empty one", x.count(2), 0);
        for (int i = 1; i <= 160; i++) {
            due("byte " + i, x.feed('x'), i);
        }
        due("byte 161", x.feed('x'), FULL);
        due("byte 161 again", x.feed('x'), FULL);
        due("bytes", x.count(2), 160);
        due("it is read", x.batch(), -100);
        due("then there is room", x.feed('x'), 1);
    }

    private static void bytes1to255() {
        Counted x = new Counted();
        due("1", x.feed(1), 1);
        due("255", x.feed(255), 2);
        int fed = 2;
        for (int letter = 2; letter < 255; letter += 23) {
            fed++;
            due("" + letter, x.feed(letter), fed);
        }
        due("0", x.feed(0), BAD);
        due("256", x.feed(256), BAD);
        due("-1", x.feed(-1), BAD);
        due("-255", x.feed(-255), BAD);
        for (int letter : OUTSIDE) {
            if (letter < 1 || letter > 255) {
                due("" + letter, x.feed(letter), BAD);
            }
        }
        due("the bad ones did not come", x.count(2), fed);
    }

    private static void fullLeavesTheTape() {
        Counted x = two();
        for (int i = 0; i < 19; i++) {
            type(x, "0:put 1;");
        }
        type(x, "0:put 02");
        due("161st", x.feed('1'), FULL);
        due("161st", x.feed(';'), FULL);
        due("bad ahead of full", x.feed(0), BAD);
        due("bad ahead of full", x.feed(256), BAD);
        due("160 bytes are read", x.batch(), 20);
        due("as they were", x.state(0, 1), 50 + 19 + 2);
    }

    // ---- words, faults

    private static void wordsAreAsLongAsLetters() {
        fault(COMMANDS, "puta 1", 0);
        fault(COMMANDS, "putz 1", 0);
        fault(COMMANDS, "aput 1", 0);
        fault(COMMANDS, "zput 1", 0);
        fault(COMMANDS, "put` 1", 3);
        fault(COMMANDS, "put{ 1", 3);
        fault(COMMANDS, "putA 1", 3);
        fault(COMMANDS, "putZ 1", 3);
        fault(COMMANDS, "put\u00e1 1", 3);
        fault(COMMANDS, "put1", 3);
        fault(COMMANDS, "`put 1", 0);
        fault(COMMANDS, "{put 1", 0);
        fault(COMMANDS, "PUT 1", 0);
        fault(COMMANDS, "closez", 0);
        fault(COMMANDS, "close{", 5);
        fault(COMMANDS, "close`", 5);
        fault(COMMANDS, "send 1 to1", 9);
        fault(COMMANDS, "send 1to 1", 6);
        fault(COMMANDS, "put 1a", 5);
        faultOfC("az", 0);
        faultOfC("a`", 1);
        faultOfC("a{", 1);
        faultOfC("a1", 1);
        faultOfC("1a", 1);
        faultOfC("aA", 1);
    }

    private static void wordsOfCommands() {
        String[] others = {"opened 1", "opens 1", "ope 1", "taken 1", "held 1", "freed 1", "priced 1", "sent 1 to 1",
            "got 1", "closed", "clos", "all 1", "to 1", "o 1", " put 1", "1", "(1)", "\u00ff"};
        for (String text : others) {
            fault(COMMANDS, text, 0);
            fault(BATCHES, "0:" + text, 2);
            fault(BATCHES, "0:put 1;0:" + text, 10);
            fault(POLICIES, "on put do " + text, 10);
        }
        String[] notTo = {"send 1 too 1", "send 1 t 1", "send 1 TO 1", "send 1  to 1", "send 1 at 1", "send 1 1"};
        for (String text : notTo) {
            fault(COMMANDS, text, 7);
            fault(BATCHES, "0:" + text, 9);
            fault(POLICIES, "on put do " + text, 17);
        }
        fault(POLICIES, "on put do send (a) too 1", 19);
        fault(COMMANDS, "send 1 to to", 10);
        fault(COMMANDS, "put one", 4);
    }

    private static void wordsOfUpcasters() {
        for (String kind : KIND_WORDS) {
            fault(UPCASTERS, kind + ":a,b", OK);
            fault(UPCASTERS, kind + "s:a,b", 0);
            fault(UPCASTERS, kind.substring(1) + ":a,b", 0);
            fault(UPCASTERS, kind.substring(0, kind.length() - 1) + ":a,b", 0);
        }
        fault(UPCASTERS, "all:a,b", 0);
        fault(UPCASTERS, "open:a,b", 0);
        fault(UPCASTERS, ":a,b", 0);
        fault(UPCASTERS, "Put:a,b", 0);
        fault(UPCASTERS, "put+got:a,b", 3);
    }

    private static void wordsOfProjections() {
        for (String fold : new String[] {"sum", "count", "most", "least", "first", "last"}) {
            for (String key : new String[] {"stream", "kind", "none"}) {
                fault(PROJECTIONS, fold + " of all by " + key, OK);
                fault(PROJECTIONS, fold + " of all by " + key + "s", fold.length() + 11);
            }
            fault(PROJECTIONS, fold + "s of all by none", 0);
            fault(PROJECTIONS, fold.substring(1) + " of all by none", 0);
        }
        for (String kind : KIND_WORDS) {
            fault(PROJECTIONS, "sum of " + kind + " by none", OK);
            fault(PROJECTIONS, "sum of " + kind + "+" + kind + " by none", OK);
            fault(PROJECTIONS, "sum of " + kind + "s by none", 7);
            fault(PROJECTIONS, "sum of put+" + kind + "s by none", 11);
        }
        fault(PROJECTIONS, "sum off put by none", 4);
        fault(PROJECTIONS, "sum o put by none", 4);
        fault(PROJECTIONS, "sum put by none", 4);
        fault(PROJECTIONS, "sum of by none", 7);
        fault(PROJECTIONS, "sum of + by none", 7);
        fault(PROJECTIONS, "sum of put++got by none", 11);
        fault(PROJECTIONS, "sum of put+all by none", 11);
        fault(PROJECTIONS, "sum of all+put by none", 10);
        fault(PROJECTIONS, "sum of put for none", 11);
        fault(PROJECTIONS, "sum of put bye none", 11);
        fault(PROJECTIONS, "sum of put by all", 14);
        fault(PROJECTIONS, "sum of put by 1", 14);
        fault(PROJECTIONS, "sum of put by none of a", 19);
        fault(PROJECTIONS, "sum of put by none iff a", 19);
        fault(PROJECTIONS, "sum of put by none i a", 19);
        fault(PROJECTIONS, "sum of put by none if if", 22);
    }

    private static void wordsOfPolicies() {
        fault(POLICIES, "an put do close", 0);
        fault(POLICIES, "one put do close", 0);
        fault(POLICIES, "put do close", 0);
        fault(POLICIES, "on puts do close", 3);
        fault(POLICIES, "on do close", 3);
        fault(POLICIES, "on put+do do close", 7);
        fault(POLICIES, "on put+all do close", 7);
        fault(POLICIES, "on all+put do close", 6);
        fault(POLICIES, "on put or close", 7);
        fault(POLICIES, "on put d close", 7);
        fault(POLICIES, "on put dos close", 7);
        fault(POLICIES, "on put iff a do close", 7);
        fault(POLICIES, "on put then do close", 7);
        fault(POLICIES, "on put close", 7);
        fault(POLICIES, "on put if a then close", 12);
        fault(POLICIES, "on put if a if close", 12);
        fault(POLICIES, "on put if a dos close", 12);
        fault(POLICIES, "on put if do close", 10);
        fault(POLICIES, "on put do do close", 10);
        for (String kind : KIND_WORDS) {
            fault(POLICIES, "on " + kind + " do close", OK);
            fault(POLICIES, "on put+" + kind + " do close", OK);
        }
    }

    private static void wordsOfKinds() {
        for (String kind : KIND_WORDS) {
            fault(KINDS, kind, OK);
            fault(KINDS, kind + "s", 0);
            fault(KINDS, "put+" + kind, OK);
            fault(KINDS, "put+" + kind + "s", 4);
        }
        fault(KINDS, "all", OK);
        fault(KINDS, "", OK);
        fault(KINDS, "al", 0);
        fault(KINDS, "none", 0);
        fault(KINDS, "nothing", 0);
        fault(KINDS, "+put", 0);
        fault(KINDS, "put+all", 4);
        fault(KINDS, "all+put", 3);
        fault(KINDS, "put,got", 3);
    }

    private static void wordsOfC() {
        String[] words = {"ab", "sa", "bs", "aa", "ss", "abs", "ado", "as", "z", "c", "r", "t", "stream", "all"};
        for (String word : words) {
            String[] texts = {word, "1+" + word, "-" + word, "(" + word + ")", "a<" + word, "2*(s-" + word + ")"};
            int[] wants = {0, 2, 1, 1, 2, 5};
            for (int i = 0; i < texts.length; i++) {
                fault(UPCASTERS, "put:" + texts[i] + ",0", 4 + wants[i]);
                fault(UPCASTERS, "put:0," + texts[i], 6 + wants[i]);
                fault(PROJECTIONS, "sum of all by none if " + texts[i], 22 + wants[i]);
                fault(POLICIES, "on all if " + texts[i] + " do close", 10 + wants[i]);
                fault(POLICIES, "on all do put (" + texts[i] + ")", 15 + wants[i]);
            }
        }
        for (String word : new String[] {"a", "b", "s", "kk", "ok", "hpv", "open", "stock", "held", "price", "z", "n"}) {
            fault(WATCHES, word, 0);
            fault(WATCHES, "k>" + word, 2);
            fault(WATCHES, "-(1+" + word + ")", 4);
        }
        for (String word : new String[] {"o", "k", "h", "p", "v"}) {
            fault(WATCHES, word, OK);
            fault(UPCASTERS, "put:" + word + ",0", 4);
            fault(PROJECTIONS, "sum of all by none if " + word, 22);
            fault(POLICIES, "on all if " + word + " do close", 10);
            fault(POLICIES, "on all do put (" + word + ")", 15);
        }
    }

    // ---- numbers

    private static void numbersOfCommands() {
        for (String verb : new String[] {"open ", "put ", "take ", "hold ", "free ", "price ", "send "}) {
            String behind = verb.equals("send ") ? " to 1" : "";
            int at = verb.length();
            for (String n : new String[] {"0", "9", "00", "99", "000", "998", "999", "0000", "0999"}) {
                fault(COMMANDS, verb + n + behind, OK);
                fault(BATCHES, "0:" + verb + n + behind, OK);
                fault(POLICIES, "on put do " + verb + n + behind, OK);
            }
            for (String n : new String[] {"1000", "1001", "9999", "10000", "99999", "12345678901234567890", "-1", "+1"}) {
                fault(COMMANDS, verb + n + behind, at);
                fault(BATCHES, "0:" + verb + n + behind, 2 + at);
                fault(POLICIES, "on put do " + verb + n + behind, 10 + at);
            }
        }
        fault(COMMANDS, "put /", 4);
        fault(COMMANDS, "put :", 4);
        fault(COMMANDS, "put 1/", 5);
        fault(COMMANDS, "put 1:", 5);
        fault(COMMANDS, "put (1)", 4);
        fault(COMMANDS, "put a", 4);
        fault(BATCHES, "0:put (1)", 6);
    }

    private static void numbersOfStreams() {
        for (int s = 0; s < 8; s++) {
            fault(COMMANDS, "send 1 to " + s, OK);
            fault(BATCHES, s + ":send 1 to " + s, OK);
            fault(POLICIES, "on put do send 1 to " + s, OK);
        }
        for (String s : new String[] {"8", "9", "08", "10", "17", "70", "99", "100", "0008", "9999", "80000", "-1"}) {
            fault(COMMANDS, "send 1 to " + s, 10);
            fault(BATCHES, "0:send 1 to " + s, 12);
            fault(BATCHES, s + ":close", 0);
            fault(BATCHES, "0:close;" + s + ":close", 8);
            fault(POLICIES, "on put do send 1 to " + s, 20);
        }
        fault(POLICIES, "on put do send 1 to (s)", 20);
    }

    private static void numbersOfC() {
        for (String number : new String[] {"0", "9", "10", "999", "1000", "9999", "0000", "0001", "007"}) {
            faultOfC(number, OK);
            due(number, c(number), Integer.parseInt(number));
        }
        for (String number : new String[] {"10000", "99999", "00000", "00001", "123456789"}) {
            faultOfC(number, 4);
            faultOfC("a+" + number, 6);
            fault(POLICIES, "on all do put (" + number + ")", 19);
        }
    }

    private static void fifthFigures() {
        for (String n : new String[] {"00000", "00001", "00999", "09990", "09999", "0000000"}) {
            fault(COMMANDS, "put " + n, 8);
            fault(COMMANDS, "send " + n + " to 1", 9);
            fault(BATCHES, "0:put " + n, 10);
            fault(POLICIES, "on put do put " + n, 18);
        }
        for (String s : new String[] {"00000", "00001", "00007", "00008", "00070", "00079"}) {
            fault(COMMANDS, "send 1 to " + s, 14);
            fault(BATCHES, "0:send 1 to " + s, 16);
            fault(BATCHES, s + ":close", 4);
        }
    }

    private static void twoFigures() {
        Counted x = two();
        due("07", batch(x, "07:open 1;00:send 5 to 07"), 3);
        due("in 7", x.state(7, 1), 5);
        due("to 01", ask(x, 0, "send 5 to 01"), 4);
        due("in 1", x.state(1, 1), 5);
        due("foreseen", foresee(x, 7, 3, "00:send 5 to 07"), 10);
    }

    private static void otherBytes() {
        fault(COMMANDS, "put,1", 3);
        fault(COMMANDS, "put\u00011", 3);
        fault(COMMANDS, "put\t1", 3);
        fault(COMMANDS, "put 1,", 5);
        fault(COMMANDS, "put 1;", 5);
        fault(COMMANDS, "put 1;0:put 1", 5);
        fault(COMMANDS, "close 0", 5);
        fault(COMMANDS, "put 1 to 1", 5);
        fault(BATCHES, "0put 1", 1);
        fault(BATCHES, "0;put 1", 1);
        fault(BATCHES, "0:put 1,0:put 1", 7);
        fault(BATCHES, "0:put 1:0:put 1", 7);
        fault(UPCASTERS, "put;a,b", 3);
        fault(UPCASTERS, "put:a;b", 5);
        fault(UPCASTERS, "put:a,b,s", 7);
        fault(UPCASTERS, "put:a,b;", 7);
        fault(UPCASTERS, "put:,b", 4);
        fault(PROJECTIONS, "sum,of put by none", 3);
        fault(PROJECTIONS, "sum of put,got by none", 10);
        fault(PROJECTIONS, "sum of put by none if(a)", 21);
        fault(POLICIES, "on put do put (1) 1", 17);
        fault(POLICIES, "on put do put (1)1", 17);
        fault(POLICIES, "on put do put 1)", 15);
        fault(POLICIES, "on put do close(1)", 15);
        fault(POLICIES, "on put do close 1", 15);
        fault(POLICIES, "on put do put ((1)", 18);
        faultOfC("!", 0);
        faultOfC("*a", 0);
        faultOfC("+a", 0);
        faultOfC(")", 0);
        faultOfC("()", 1);
        faultOfC("a)", 1);
        faultOfC("(a))", 3);
        faultOfC("a!b", 1);
        faultOfC("a&b", 1);
        faultOfC("a(b)", 1);
        faultOfC("(a)b", 3);
        faultOfC("a^2", 1);
        faultOfC("a<=b", 2);
        faultOfC("a==b", 2);
        faultOfC("a**b", 2);
        faultOfC("a+*b", 2);
        faultOfC("\u0001", 0);
        faultOfC("\u00ff", 0);
        faultOfC("a\u00ff", 1);
    }

    private static void endsTooEarly() {
        prefixes(COMMANDS, "open 12", 0, 0, 0, 0, 4, 5, OK, OK);
        prefixes(COMMANDS, "put 12", 0, 0, 0, 3, 4, OK, OK);
        prefixes(COMMANDS, "take 12", 0, 0, 0, 0, 4, 5, OK, OK);
        prefixes(COMMANDS, "hold 12", 0, 0, 0, 0, 4, 5, OK, OK);
        prefixes(COMMANDS, "free 12", 0, 0, 0, 0, 4, 5, OK, OK);
        prefixes(COMMANDS, "price 12", 0, 0, 0, 0, 0, 5, 6, OK, OK);
        prefixes(COMMANDS, "send 12 to 3", 0, 0, 0, 0, 4, 5, 6, 7, 8, 8, 10, 11, OK);
        prefixes(COMMANDS, "close", 0, 0, 0, 0, 0, OK);
        prefixes(BATCHES, "0:put 1;1:close", 0, 1, 2, 2, 2, 5, 6, OK, 8, 9, 10, 10, 10, 10, 10, OK);
        prefixes(UPCASTERS, "put:a,b", 0, 0, 0, 3, 4, 5, 6, OK);
        prefixes(UPCASTERS, "priced:(a),-b", 0, 0, 0, 0, 0, 0, 6, 7, 8, 9, 10, 11, 12, OK);
        prefixes(KINDS, "put+taken", OK, 0, 0, OK, 4, 4, 4, 4, 4, OK);
        prefixes(KINDS, "all", OK, 0, 0, OK);
        prefixes(WATCHES, "k>-(p)", 0, OK, 2, 3, 4, 5, OK);
        prefixes(WATCHES, "1*2%3", 0, OK, 2, OK, 4, OK);
        prefixes(POLICIES, "on put if a do send (b) to 1",
            0, 0, 2, 3, 3, 3, 6, 7, 7, 9, 10, 11, 12, 12, 14, 15, 15, 15, 15, 19, 20, 21, 22, 23, 24, 24, 26, 27, OK);
        prefixes(POLICIES, "on all do close", 0, 0, 2, 3, 3, 3, 6, 7, 7, 9, 10, 10, 10, 10, 10, OK);
        int[] wants = {0, 0, 0, 3, 4, 4, 6, 7, 7, 7, 10, 11, 11, 11, 14, 15, 15, 17, 18, 18, 18, 18, OK, 23, 23, 25, 26,
            OK};
        prefixes(new Reader[] {EdgesOfTexts::projects}, "sum of put+got by kind if a", wants);
        wants[0] = OK;
        prefixes(new Reader[] {EdgesOfTexts::rebuilds}, "sum of put+got by kind if a", wants);
    }

    private static void endsAt160() {
        StringBuilder lines = new StringBuilder();
        for (int i = 0; i < 20; i++) {
            lines.append("0:put 1;");
        }
        fault(BATCHES, lines.toString(), 160);
        StringBuilder c = new StringBuilder("put:0,0");
        while (c.length() < 159) {
            c.append("+1");
        }
        fault(UPCASTERS, c.toString(), OK);
        c.append('+');
        fault(UPCASTERS, c.toString(), 160);
        StringBuilder kinds = new StringBuilder("put");
        while (kinds.length() < 159) {
            kinds.append("+put");
        }
        fault(KINDS, kinds.toString(), OK);
        kinds.append('+');
        fault(KINDS, kinds.toString(), 160);
    }

    private static void nothingBetween() {
        fault(COMMANDS, " put 1", 0);
        fault(COMMANDS, "put  1", 4);
        fault(COMMANDS, "put 1 ", 5);
        fault(COMMANDS, "put 1 2", 5);
        fault(COMMANDS, "send  1 to 1", 5);
        fault(COMMANDS, "send 1  to 1", 7);
        fault(COMMANDS, "send 1 to  1", 10);
        fault(COMMANDS, "send 1 to 1 ", 11);
        fault(COMMANDS, "close ", 5);
        fault(BATCHES, " 0:close", 0);
        fault(BATCHES, "0 :close", 1);
        fault(BATCHES, "0: close", 2);
        fault(BATCHES, "0:close ;0:close", 7);
        fault(BATCHES, "0:close; 0:close", 8);
        fault(BATCHES, "0:close;", 8);
        fault(BATCHES, ";0:close", 0);
        fault(BATCHES, "0:close;;0:close", 8);
        fault(BATCHES, "0::close", 2);
        fault(UPCASTERS, " put:a,b", 0);
        fault(UPCASTERS, "put :a,b", 3);
        fault(UPCASTERS, "put: a,b", 4);
        fault(UPCASTERS, "put:a ,b", 5);
        fault(UPCASTERS, "put:a, b", 6);
        fault(UPCASTERS, "put:a,b ", 7);
        fault(PROJECTIONS, " sum of put by none", 0);
        fault(PROJECTIONS, "sum  of put by none", 4);
        fault(PROJECTIONS, "sum of  put by none", 7);
        fault(PROJECTIONS, "sum of put +got by none", 11);
        fault(PROJECTIONS, "sum of put+ got by none", 11);
        fault(PROJECTIONS, "sum of put  by none", 11);
        fault(PROJECTIONS, "sum of put by  none", 14);
        fault(PROJECTIONS, "sum of put by none ", 19);
        fault(PROJECTIONS, "sum of put by none  if a", 19);
        fault(PROJECTIONS, "sum of put by none if  a", 22);
        fault(PROJECTIONS, "sum of put by none if a ", 23);
        fault(POLICIES, " on put do close", 0);
        fault(POLICIES, "on  put do close", 3);
        fault(POLICIES, "on put  do close", 7);
        fault(POLICIES, "on put if  a do close", 10);
        fault(POLICIES, "on put if a  do close", 12);
        fault(POLICIES, "on put do  close", 10);
        fault(POLICIES, "on put do close ", 15);
        fault(POLICIES, "on put do put  (a)", 14);
        fault(POLICIES, "on put do put(a)", 13);
        fault(POLICIES, "on put do put ( a)", 15);
        fault(POLICIES, "on put do put (a )", 16);
        fault(POLICIES, "on put do put (a) ", 17);
        fault(POLICIES, "on put do send (a)  to 1", 19);
        fault(KINDS, " put", 0);
        fault(KINDS, " ", 0);
        fault(KINDS, "put ", 3);
        fault(KINDS, "put +got", 3);
        fault(KINDS, "put+ got", 4);
        for (Reader reader : WATCHES) {
            due(" k", reader.fault(" k"), 0);
            due("k ", reader.fault("k "), 1);
            due("k +1", reader.fault("k +1"), 1);
            due("k+ 1", reader.fault("k+ 1"), 2);
            due("- k", reader.fault("- k"), 1);
            due("( k)", reader.fault("( k)"), 1);
            due("(k )", reader.fault("(k )"), 2);
            due("1 0", reader.fault("1 0"), 1);
        }
    }

    private static void firstPlace() {
        fault(COMMANDS, "puts 1000 x", 0);
        fault(COMMANDS, "put 1000 x", 4);
        fault(COMMANDS, "send 1000 too 8", 5);
        fault(COMMANDS, "send 1 too 8", 7);
        fault(BATCHES, "8:x;9:y", 0);
        fault(BATCHES, "0:put 1000;8:x", 6);
        fault(BATCHES, "0:put 1;8:x", 8);
        fault(UPCASTERS, "puts:k,k", 0);
        fault(UPCASTERS, "put:k,k", 4);
        fault(UPCASTERS, "put:a,k", 6);
        fault(UPCASTERS, "put:((((((((a,k", 10);
        fault(PROJECTIONS, "sums off puts", 0);
        fault(PROJECTIONS, "sum off puts", 4);
        fault(PROJECTIONS, "sum of puts bye", 7);
        fault(PROJECTIONS, "sum of put bye", 11);
        fault(POLICIES, "on put if k or opens 1000", 10);
        fault(POLICIES, "on put if a or opens 1000", 12);
        fault(POLICIES, "on put if a do opens 1000", 15);
        fault(POLICIES, "on put if a do open 1000", 20);
        fault(KINDS, "puts+gots", 0);
        fault(KINDS, "put+gots+", 4);
        fault(WATCHES, "a+b", 0);
        fault(WATCHES, "k+b", 2);
        fault(WATCHES, "12345+b", 4);
    }

    private static void readingEmpties() {
        Counted x = two();
        ask(x, 0, -1, 9, "put 1");
        due("done", x.count(2), 0);
        ask(x, 0, -1, 9, "put 1");
        due("repeated", x.count(2), 0);
        due("conflict", ask(x, 0, 0, 0, "put 1"), CONFLICT);
        due("conflict", x.count(2), 0);
        due("refused", ask(x, 0, "open 1"), -22);
        due("refused", x.count(2), 0);
        ask(x, 0, "x");
        due("a fault", x.count(2), 0);
        batch(x, "0:put 1;0:put 1");
        due("batch", x.count(2), 0);
        batch(x, "0:put 1;0:open 1");
        due("batch refused", x.count(2), 0);
        batch(x, "0:put 1;0:x");
        due("batch with a fault", x.count(2), 0);
        upcast(x, "put:a,b");
        due("upcast", x.count(2), 0);
        upcast(x, "put:a,k");
        due("upcast with a fault", x.count(2), 0);
        project(x, 0, "sum of all by none");
        due("project", x.count(2), 0);
        project(x, 0, "sum of x");
        due("project with a fault", x.count(2), 0);
        rebuild(x, 0, "sum of all by none");
        due("rebuild", x.count(2), 0);
        rebuild(x, 0, "x");
        due("rebuild with a fault", x.count(2), 0);
        policy(x, 0, "on all do put 1");
        due("policy", x.count(2), 0);
        policy(x, 0, "on all to put 1");
        due("policy with a fault", x.count(2), 0);
        harmless(x, "put");
        due("harmless", x.count(2), 0);
        harmless(x, "x");
        due("harmless with a fault", x.count(2), 0);
        watch(x, 0, 0, "k");
        due("watch", x.count(2), 0);
        due("watch of none", watch(x, 0, 0, "k>999"), NOT);
        due("watch of none", x.count(2), 0);
        watch(x, 0, 0, "x");
        due("watch with a fault", x.count(2), 0);
        foresee(x, 0, 0, "0:put 1");
        due("foresee", x.count(2), 0);
        foresee(x, 0, 0, "x");
        due("foresee with a fault", x.count(2), 0);
        x.see(0, 0);
        attempt(x, 0, 0, "put 1");
        due("attempt", x.count(2), 0);
        attempt(x, 0, 0, "x");
        due("attempt with a fault", x.count(2), 0);
        due("attempt refused", attempt(x, 0, 0, "open 1"), -22);
        due("attempt refused", x.count(2), 0);
        ask(x, 0, "put 1");
        due("attempt in conflict", attempt(x, 0, 0, "put 1"), CONFLICT);
        due("attempt in conflict", x.count(2), 0);
        x = filled(240);
        due("ask without room", ask(x, 0, "put 1"), FULL);
        due("ask without room", x.count(2), 0);
        due("batch without room", batch(x, "0:put 1"), -300);
        due("batch without room", x.count(2), 0);
        x.see(0, 0);
        due("attempt without room", attempt(x, 0, 0, "put 1"), FULL);
        due("attempt without room", x.count(2), 0);
        for (int i = 0; i < 3; i++) {
            upcast(x, "put:a,b");
        }
        due("upcast without room", upcast(x, "put:a,b"), FULL);
        due("upcast without room", x.count(2), 0);
    }

    // ---- C

    private static void comparisons() {
        String[] signs = {"<", "=", ">"};
        // For each sign: less, as much, more.
        int[][] wants = {{1, 0, 0}, {0, 1, 0}, {0, 0, 1}};
        for (int i = 0; i < 3; i++) {
            for (int y = 6; y <= 8; y++) {
                due("7" + signs[i] + y, c("a" + signs[i] + y), wants[i][8 - y]);
            }
            due("-1" + signs[i] + "0", c("-1" + signs[i] + "0"), wants[i][0]);
            due("most" + signs[i] + "least", cOf(MOST_AS_C, "a" + signs[i] + "a+1"), wants[i][2]);
            due("least" + signs[i] + "most", cOf(MOST_AS_C, "a+1" + signs[i] + "a"), wants[i][0]);
            due("sums beside it", c("1+2" + signs[i] + "4-1"), wants[i][1]);
        }
    }

    private static void oneComparison() {
        for (String x : new String[] {"<", "=", ">"}) {
            for (String y : new String[] {"<", "=", ">"}) {
                faultOfC("1" + x + "2" + y + "3", 3);
                fault(POLICIES, "on all do put (1" + x + "2" + y + "3)", 18);
            }
            faultOfC("(1" + x + "2)" + x + "3", OK);
            faultOfC("1" + x + "(2" + x + "3)", OK);
        }
        due("(3>2)>1", c("(3>2)>1"), 0);
        due("3>(2>1)", c("3>(2>1)"), 1);
        due("(1<2)=(3<4)", c("(1<2)=(3<4)"), 1);
    }

    private static void sumsAndProducts() {
        due("1+2*3", c("1+2*3"), 7);
        due("2*3+1", c("2*3+1"), 7);
        due("9-4-3", c("9-4-3"), 2);
        due("9-4+3", c("9-4+3"), 8);
        due("9-(4-3)", c("9-(4-3)"), 8);
        due("100/10/5", c("100/10/5"), 2);
        due("100/(10/5)", c("100/(10/5)"), 50);
        due("7*5/2", c("7*5/2"), 17);
        due("5/2*7", c("5/2*7"), 14);
        due("17%10%4", c("17%10%4"), 3);
        due("17%(10%4)", c("17%(10%4)"), 1);
        due("2*7%4", c("2*7%4"), 2);
        due("20-2*3%4/2", c("20-2*3%4/2"), 19);
        due("1-2*3-4", c("1-2*3-4"), -9);
        due("- binds its O alone", c("-2*3+10"), 4);
        due("- binds its O alone", c("-7%4"), -3);
        due("- of brackets", c("-(2-3)"), 1);
    }

    private static void operands() {
        Counted x = new Counted();
        batch(x, "5:open 1;2:open 1;5:put 9;5:send 3 to 2");
        due("sent", upcast(x, "sent:a*10000-0,b"), -100 - 11);
        due("sent", upcast(x, "sent:a*100+b*10+s,-(b)"), 2);
        due("a, b, s", x.event(4, 6), 325);
        due("- ( C )", x.event(4, 7), -2);
        upcast(x, "got:a*100+b*10+s,0");
        due("a, b, s", x.event(5, 6), 352);
        due("a number", c("0"), 0);
        due("- - -", c("---a"), -7);
        due("( ( ) )", c("((a))"), 7);
        due("a C in brackets", c("(a>6)*5+(a<7)"), 5);
    }

    private static void sixOpen() {
        for (int mix = 0; mix < 64; mix++) {
            StringBuilder ahead = new StringBuilder();
            StringBuilder behind = new StringBuilder();
            int want = 7;
            for (int i = 0; i < 6; i++) {
                boolean minus = (mix >> i & 1) == 1;
                ahead.append(minus ? '-' : '(');
                behind.append(minus ? "" : ")");
                want = minus ? -want : want;
            }
            due(ahead + "a" + behind, c(ahead + "a" + behind), want);
            due("seventh -", c(ahead + "-a" + behind), -100 - 7 - 6);
            due("seventh (", c(ahead + "(a)" + behind), -100 - 7 - 6);
            due("seventh (, and no more", upcasts("put:" + ahead + "("), 4 + 6);
            due("six, and no more", upcasts("put:" + ahead), 4 + 6);
        }
    }

    private static void sixOpenEverywhere() {
        faultOfC("((((((a))))))", OK);
        faultOfC("(((((((a)))))))", 6);
        faultOfC("------a", OK);
        faultOfC("-------a", 6);
        faultOfC("(-(-(-a)))", OK);
        faultOfC("(-(-(-(a))))", 6);
        faultOfC("1+(2*(((((a)))))", 16);
        faultOfC("1+(2*((((((a))))))", 10);
        faultOfC("(a)<((((((a))))))", OK);
        faultOfC("(a)<(((((((a)))))))", 10);
    }

    private static void openBehindOneAnother() {
        due("brackets", c("((((((a))))))+((((((a))))))*((((((a))))))"), 56);
        due("minuses", c("------a-------a"), 0);
        due("a seventh minus behind", c("------a--------a"), -100 - 7 - 14);
        due("eight minuses, one at a time", c("-a+-a+-a+-a+-a+-a+-a+-a"), -56);
        due("in six brackets, one behind the other", c("(((((-a+-a*(-1)))))))"), -100 - 7 - 12);
        due("in five brackets, one behind the other", c("(((((-a+-a*-1+(a)-(a))))))"), 0);
        due("a minus ends with its O", c("-(-(-1))+((((((2))))))"), 1);
    }

    private static void openInPolicies() {
        fault(POLICIES, "on all do put ((((((a))))))", OK);
        fault(POLICIES, "on all do put (((((((a)))))))", 20);
        fault(POLICIES, "on all do put (-----a)", OK);
        fault(POLICIES, "on all do put (------a)", 20);
        fault(POLICIES, "on all do send ((((((a)))))) to 1", OK);
        fault(POLICIES, "on all do send (((((((a))))))) to 1", 21);
        fault(POLICIES, "on all if ((((((a)))))) do put ((((((a))))))", OK);
    }

    private static void intsThatWrap() {
        due("most", c(MOST_AS_C), MOST);
        due("most and 1", cOf(MOST_AS_C, "a+1"), LEAST);
        due("least less 1", cOf(MOST_AS_C + "+1", "a-1"), MOST);
        due("less most, less 1", cOf(MOST_AS_C, "-a-1"), LEAST);
        due("less most, less 2", cOf(MOST_AS_C, "-a-2"), MOST);
        due("- least", cOf(MOST_AS_C + "+1", "-a"), LEAST);
        due("most twice", cOf(MOST_AS_C, "a*2"), -2);
        due("most and most", cOf(MOST_AS_C, "a+a"), -2);
        due("most by most", cOf(MOST_AS_C, "a*a"), 1);
        due("least by least", cOf(MOST_AS_C + "+1", "a*a"), 0);
        due("least by -1", cOf(MOST_AS_C + "+1", "a*-1"), LEAST);
        due("least / -1", cOf(MOST_AS_C + "+1", "a/-1"), LEAST);
        due("least % -1", cOf(MOST_AS_C + "+1", "a%-1"), 0);
        due("0 less least", cOf(MOST_AS_C + "+1", "0-a"), LEAST);
        due("comparing does not wrap", cOf(MOST_AS_C + "+1", "a<1"), 1);
        due("comparing does not wrap", cOf(MOST_AS_C, "-2<a"), 1);
    }

    private static void towardZero() {
        due("7/2", c("7/2"), 3);
        due("-7/2", c("-7/2"), -3);
        due("7/-2", c("7/-2"), -3);
        due("-7/-2", c("-7/-2"), 3);
        due("(0-7)/2", c("(0-7)/2"), -3);
        due("1/2", c("1/2"), 0);
        due("-1/2", c("-1/2"), 0);
        due("7%2", c("7%2"), 1);
        due("-7%2", c("-7%2"), -1);
        due("7%-2", c("7%-2"), 1);
        due("-7%-2", c("-7%-2"), -1);
        due("(0-7)%2", c("(0-7)%2"), -1);
        due("6%2", c("-6%2"), 0);
        due("least / 2", cOf(MOST_AS_C + "+1", "a/2"), LEAST / 2);
        due("least % 10", cOf(MOST_AS_C + "+1", "a%10"), -8);
    }

    private static void byZero() {
        for (String x : new String[] {"0", "1", "a", "-a", "9999"}) {
            due(x + "/0", c(x + "/0"), 0);
            due(x + "%0", c(x + "%0"), 0);
            due(x + "/b", c(x + "/b"), 0);
            due(x + "%(a-7)", c(x + "%(a-7)"), 0);
            due("1+" + x + "/0", c("1+" + x + "/0"), 1);
            due("0/" + x, c("0/" + x), 0);
        }
        due("least", cOf(MOST_AS_C + "+1", "a/0"), 0);
        due("least", cOf(MOST_AS_C + "+1", "a%0"), 0);
        due("it goes on", c("a/0+a"), 7);
        Counted x = two();
        due("if by 0", project(x, 0, "sum of put by none if a/0"), 1);
        x.deliver(0, 0, 1, 3);
        due("if by 0", x.look(0, 0, 1), 0);
        due("watch by 0", watch(x, 0, 1, "k/0"), 0);
        due("watch by 0", watch(x, 0, 1, "k%o+1"), 3);
    }

    private static void longAndDeep() {
        StringBuilder c = new StringBuilder("1");
        for (int i = 0; i < 72; i++) {
            c.append("+1");
        }
        due("72 and 1", c(c.toString()), 73);
        due("as deep as may be", c("0<1+1*(0<1+1*(0<1+1*(0<1+1*(0<1+1*(0<1+1*(0<1+1*2))))))"), 1);
        due("as deep as may be", c("1-2*(1-2*(1-2*(1-2*(1-2*(1-2*(1-2*a))))))"), 43 - 128 * 7);
        due("deep in a watch", watch(two(), 0, 1, "0<1+1*(0<1+1*(0<1+1*(0<1+1*(0<1+1*(0<1+1*(0<1+1*2))))))"), 3);
        due("- where most stand open", c("1<1+1*(1<1+1*(1<1+1*(1<1+1*(1<1+1*-9))))"), 0);
    }

    // ---- upcasters

    private static void threeUpcasters() {
        Counted x = new Counted();
        for (int kind = 0; kind < 9; kind++) {
            for (int format = 2; format <= 4; format++) {
                due(KIND_WORDS[kind], upcast(x, KIND_WORDS[kind] + ":a,b"), format);
                due("in all", x.count(1), kind * 3 + format - 1);
            }
        }
        for (int kind = 0; kind < 9; kind++) {
            due(KIND_WORDS[kind], upcast(x, KIND_WORDS[kind] + ":a,b"), FULL);
        }
        due("in all", x.count(1), 27);
    }

    private static void fullUpcasters() {
        Counted x = two();
        for (int i = 0; i < 3; i++) {
            upcast(x, "put:a+1,b");
        }
        x.snap(0);
        due("full", upcast(x, "put:a+100,b"), FULL);
        due("the tape is empty, too", x.count(2), 0);
        due("in all", x.count(1), 3);
        due("read by three", x.event(3, 6), 53);
        due("stock", x.state(0, 1), 53);
        due("no new era", x.snaps(0, 1), 1);
        due("a FAULT", upcast(x, "put:a+100,"), -100 - 10);
        due("a FAULT ahead of FULL", upcast(x, "put:a+100,k"), -100 - 10);
        due("a FAULT ahead of FULL", upcast(x, "put:a,b,"), -100 - 7);
        due("others have room", upcast(x, "got:a,b"), 2);
    }

    private static void bothAsTheyWere() {
        Counted x = new Counted();
        batch(x, "5:open 1;2:open 1;5:put 9;5:send 3 to 2");
        upcast(x, "sent:b,a");
        due("A", x.event(4, 6), 2);
        due("B", x.event(4, 7), 3);
        upcast(x, "sent:a+b,a-b");
        due("A", x.event(4, 6), 5);
        due("B", x.event(4, 7), -1);
        upcast(x, "sent:a*b,a*10+b");
        due("A", x.event(4, 6), -5);
        due("B", x.event(4, 7), 49);
        due("as written", x.event(4, 4), 3);
        due("as written", x.event(4, 5), 2);
    }

    private static void streamInUpcasters() {
        Counted x = new Counted();
        batch(x, "0:open 1;7:open 1;7:put 9;0:put 9;7:send 3 to 0");
        upcast(x, "put:a+s,s");
        due("of 7", x.event(3, 6), 16);
        due("of 7", x.event(3, 7), 7);
        due("of 0", x.event(4, 6), 9);
        due("of 0", x.event(4, 7), 0);
        upcast(x, "put:a*s,b+s");
        due("of 7 still", x.event(3, 6), 112);
        due("of 7 still", x.event(3, 7), 14);
        upcast(x, "sent:s,b");
        upcast(x, "got:s,b");
        due("the one that sent", x.event(5, 6), 7);
        due("the one that got", x.event(6, 6), 0);
    }

    private static void formatOfThen() {
        Counted x = two();
        for (int format = 1; format <= 4; format++) {
            due("put", ask(x, 0, "put 1"), format * 2 + 1);
            due("take", ask(x, 0, "take 1"), format * 2 + 2);
            due("the FORMAT of then", x.event(x.count(0) - 1, 3), format);
            due("another KIND's", x.event(x.count(0), 3), 1);
            upcast(x, "put:a,b");
        }
        for (int format = 1; format <= 4; format++) {
            due("it stays", x.event(2 + format * 2, 3), format);
        }
        due("all written alike", x.event(4, 4) + x.event(10, 4), 2);
    }

    private static void readFromFormatOn() {
        Counted x = two();
        ask(x, 1, "put 10");
        upcast(x, "put:a*2,b");
        ask(x, 1, "put 10");
        upcast(x, "put:a+3,b");
        ask(x, 1, "put 10");
        upcast(x, "put:a*5,b+1");
        ask(x, 1, "put 10");
        int[] reads = {(10 * 2 + 3) * 5, (10 + 3) * 5, 10 * 5, 10};
        for (int i = 0; i < 4; i++) {
            due("FORMAT " + (i + 1), x.event(4 + i, 3), i + 1);
            due("FORMAT " + (i + 1), x.event(4 + i, 6), reads[i]);
            due("FORMAT " + (i + 1), x.event(4 + i, 7), i < 3 ? 1 : 0);
            due("as written", x.event(4 + i, 4), 10);
        }
        due("the STATE is by them", x.state(1, 1), 115 + 65 + 50 + 10);
        due("of its KIND alone", x.event(1, 6), 7);
    }

    private static void eraOfAll() {
        Counted x = two();
        due("none", x.count(1), 0);
        x.snap(0);
        due("good", x.snaps(0, 1), 1);
        upcast(x, "closed:a,b");
        due("a KIND without EVENTS, too", x.count(1), 1);
        due("none is good", x.snaps(0, 1), 0);
        x.snap(0);
        due("one is good", x.snaps(0, 1), 1);
        upcast(x, "puts:a,b");
        due("one that is not told", x.snaps(0, 1), 1);
        upcast(x, "got:a,b");
        due("two", x.count(1), 2);
        due("none is good", x.snaps(0, 1), 0);
        due("two are kept", x.snaps(0, 0), 2);
    }
}

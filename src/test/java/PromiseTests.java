/** Each promise of the document by hand: ordinary calls, the edges that it names, wrong numbers. */
public final class PromiseTests {
    private static final int BAD = -1, NOT = -2, FULL = -3, CONFLICT = -4, STATE = -5, VOID = -2000000000;
    private static final int LEAST = Integer.MIN_VALUE, MOST = Integer.MAX_VALUE;

    private static int wrong = 0;
    private static String promise = "";

    private static void due(String what, long got, long want) {
        if (got != want) {
            wrong++;
            System.out.println("promise " + promise + ": " + what + " answered " + got + ", due is " + want);
        }
    }

    private static void type(StockEvents x, String text) {
        for (int i = 0; i < text.length(); i++) {
            due("feed of " + text, x.feed(text.charAt(i)) > 0 ? 1 : 0, 1);
        }
    }

    private static int ask(StockEvents x, int stream, String text) {
        return ask(x, stream, -1, 0, text);
    }

    private static int ask(StockEvents x, int stream, int expected, int number, String text) {
        type(x, text);
        return x.ask(stream, expected, number);
    }

    private static int batch(StockEvents x, String text) {
        type(x, text);
        return x.batch();
    }

    private static int upcast(StockEvents x, String text) {
        type(x, text);
        return x.upcast();
    }

    private static int project(StockEvents x, int p, String text) {
        type(x, text);
        return x.project(p);
    }

    private static int rebuild(StockEvents x, int p, String text) {
        type(x, text);
        return x.rebuild(p);
    }

    private static int policy(StockEvents x, int p, String text) {
        type(x, text);
        return x.policy(p);
    }

    private static int harmless(StockEvents x, String text) {
        type(x, text);
        return x.harmless();
    }

    private static int attempt(StockEvents x, int client, int harmless, String text) {
        type(x, text);
        return x.attempt(client, harmless);
    }

    private static int watch(StockEvents x, int stream, int what, String text) {
        type(x, text);
        return x.watch(stream, what);
    }

    private static long foresee(StockEvents x, int stream, int what, String text) {
        type(x, text);
        return x.foresee(stream, what);
    }

    /** What a text C gives, by an upcaster of "priced" over an event with A 7 of STREAM 3. */
    private static int c(String text) {
        StockEvents x = new StockEvents();
        ask(x, 3, "open 1");
        ask(x, 3, "price 7");
        int answer = upcast(x, "priced:" + text + ",0");
        return answer == 2 ? x.event(2, 6) : answer;
    }

    /** Bins 0 (price 7, stock 50) and 1 (price 3, empty) are open: 1 opened, 2 opened, 3 put. */
    private static StockEvents two() {
        StockEvents x = new StockEvents();
        due("open 0", ask(x, 0, "open 7"), 1);
        due("open 1", ask(x, 1, "open 3"), 1);
        due("put 0", ask(x, 0, "put 50"), 2);
        return x;
    }

    /** A log of so many events, all but the first four by a policy that stands at 3. */
    private static StockEvents filled(int events) {
        StockEvents x = two();
        policy(x, 3, "on all do put 1");
        ask(x, 0, "put 1");
        due("run", x.run(3, events - 4), events - 4);
        due("events", x.count(0), events);
        return x;
    }

    public static void main(String[] args) {
        terms();
        promises1to5();
        promises6to11();
        promises12to15();
        promises16to21();
        promises22to24();
        promises25to29();
        promises30to35();
        System.out.println(wrong == 0 ? "all promises hold" : wrong + " answers are not as due");
        if (wrong != 0) {
            System.exit(1);
        }
    }

    private static void terms() {
        promise = "(terms) C";
        due("2+3*4", c("2+3*4"), 14);
        due("(2+3)*4", c("(2+3)*4"), 20);
        due("9-3-2", c("9-3-2"), 4);
        due("letters", c("a*100+b*10+s"), 703);
        due("--a", c("--a"), 7);
        due("9--a", c("9--a"), 16);
        due("-7/2 goes toward 0", c("-a/2"), -3);
        due("-7%4 goes toward 0", c("-a%4"), -3);
        due("by 0", c("a/0+a%0"), 0);
        due("by what gives 0", c("a/(a-7)"), 0);
        due("<", c("1<2"), 1);
        due("<", c("2<2"), 0);
        due("=", c("2=2"), 1);
        due(">", c("2>2"), 0);
        due("> of sums", c("1+1>1"), 1);
        due("inside", c("(a=7)+(a>7)*10+(a<7)*100"), 1);
        due("wraps", c("9999*9999*9999"), (int) (9999L * 9999 * 9999));
        due("0 ahead", c("0012"), 12);
        due("six open", c("((((((a))))))"), 7);
        due("six open, - too", c("-(-(-(a)))"), -7);
        due("one behind the other", c("((((((a))))))+((((((a))))))"), 14);
        due("seven open", c("(((((((a)))))))"), -100 - 13);
        due("seventh -", c("-------a"), -100 - 13);
        due("- ahead of six (", c("-((((((a))))))"), -100 - 13);
        due("fifth figure", c("12345"), -100 - 11);
        due("two comparisons", c("1<2<3"), -100 - 10);
        due("no operand", c("1+"), -100 - 9);
        due("a blank", c("1 +2"), -100 - 8);
        due("a longer word", c("as"), -100 - 7);
        due("a longer word", c("aa"), -100 - 7);
        due("a longer word", c("1+bz"), -100 - 9);
        due("a longer word", c("-(sa)"), -100 - 9);
        due("another word", c("k"), -100 - 7);
        due("a number ends ahead of a word", c("1a"), -100 - 8);
        due("a word ends ahead of a figure", c("a1"), -100 - 8);
        due("a word ends ahead of another byte", c("aA"), -100 - 8);
        due("a letter where six are open", c("((((((as))))))"), -100 - 13);
        due("not closed", c("(1"), -100 - 9);
        due("closed alone", c("1)"), -100 - 8);
        due("least int by -1", c("((0-9999*9999*9999*0-2)*8192*8192*16)/(0-1)"), LEAST);
    }

    private static void promises1to5() {
        promise = "1";
        StockEvents x = new StockEvents();
        for (int what = 0; what < 8; what++) {
            due("count " + what, x.count(what), 0);
        }
        for (int what = 0; what < 7; what++) {
            due("led " + what, x.led(what), 0);
        }
        for (int stream = 0; stream < 8; stream++) {
            due("version", x.state(stream, 4), 0);
            due("open", x.state(stream, 0), 0);
        }
        due("two objects share nothing", two().count(0) + new StockEvents().count(0), 3);

        promise = "2";
        due("0", x.feed(0), BAD);
        due("256", x.feed(256), BAD);
        due("-1", x.feed(-1), BAD);
        due("1", x.feed(1), 1);
        due("255", x.feed(255), 2);
        for (int i = 3; i <= 160; i++) {
            due("byte " + i, x.feed('a'), i);
        }
        due("full", x.feed('a'), FULL);
        due("bad ahead of full", x.feed(0), BAD);
        due("bytes", x.count(2), 160);

        promise = "3";
        x = two();
        due("bad stream", ask(x, 8, "put 1"), BAD);
        due("bad stream", x.ask(-1, -1, 0), BAD);
        due("bad expected", x.ask(0, -2, 0), BAD);
        due("bad number", x.ask(0, -1, 1000), BAD);
        due("bad number", x.ask(0, -1, -1), BAD);
        due("the tape stays", x.count(2), 5);
        due("put 1", x.ask(0, -1, 0), 3);
        due("the tape is empty", x.count(2), 0);
        due("expected", ask(x, 0, 3, 999, "take 1"), 4);
        due("repeated, whatever the stream", ask(x, 1, 9, 999, "put 1"), 4);
        due("nothing is done", x.count(0), 5);
        due("a fault ahead of repeated", ask(x, 1, 9, 999, "put"), -103);
        due("conflict", ask(x, 0, 3, 5, "put 1"), CONFLICT);
        due("conflict", ask(x, 0, 0, 5, "put 1"), CONFLICT);
        due("conflict", ask(x, 0, MOST, 5, "put 1"), CONFLICT);
        due("bad", x.ask(0, LEAST, 0), BAD);
        due("conflict ahead of refused", ask(x, 0, 3, 5, "take 51"), CONFLICT);
        due("open again", ask(x, 0, "open 1"), -22);
        due("not open", ask(x, 2, "put 1"), -21);
        due("not open ahead of 25", ask(x, 2, "send 1 to 2"), -21);
        due("too much", ask(x, 0, "take 51"), -23);
        due("all of it", ask(x, 0, "hold 50"), 5);
        due("held too", ask(x, 0, "take 1"), -23);
        due("nothing of nothing", ask(x, 0, "take 0"), 6);
        due("free too much", ask(x, 0, "free 51"), -23);
        due("free", ask(x, 0, "free 20"), 7);
        due("to itself", ask(x, 0, "send 1 to 0"), -25);
        due("to none, ahead of 23", ask(x, 0, "send 99 to 2"), -25);
        due("send too much", ask(x, 0, "send 21 to 1"), -23);
        due("send", ask(x, 0, "send 20 to 01"), 8);
        due("got there", x.state(1, 1), 20);
        due("close with stock", ask(x, 0, "close"), -24);
        due("price", ask(x, 0, "price 999"), 9);
        due("take the rest back", ask(x, 1, "send 20 to 0"), 3);
        due("close", ask(x, 1, "close"), 4);
        due("closed", ask(x, 1, "open 1"), -22);
        due("closed", ask(x, 1, "put 1"), -21);
        due("a refused number may come again", ask(x, 1, -1, 8, "put 1"), -21);
        due("numbers", x.count(4), 1);
        due("by another stream", ask(x, 0, -1, 8, "put 1"), 11);
        due("numbers", x.count(4), 2);
        faultsOfCommands();
        x = filled(239);
        due("no room for two", ask(x, 0, "send 0 to 1"), FULL);
        due("refused ahead of full", ask(x, 0, "send 999 to 1"), -23);
        due("room for one", ask(x, 0, -1, 3, "put 1") > 0 ? 1 : 0, 1);
        due("none", ask(x, 0, -1, 4, "put 1"), FULL);
        due("240", x.count(0), 240);
        due("numbers", x.count(4), 1);
        due("conflict as promised ahead of full", ask(x, 0, 1, 4, "put 1"), CONFLICT);
        due("repeated", ask(x, 0, 1, 3, "put 1"), x.state(0, 4));

        promise = "4";
        x = two();
        due("lines", batch(x, "0:put 1;1:put 2;0:send 3 to 1"), 4);
        due("stock", x.state(1, 1), 5);
        due("one behind the other", batch(x, "2:open 1;2:put 4;2:take 4;2:close"), 4);
        due("closed", x.state(2, 0), 2);
        due("refused", batch(x, "0:put 9;1:put 9;2:put 9"), -302);
        due("none has been", x.count(0), 11);
        due("first line", batch(x, "2:put 9"), -300);
        due("empty", x.batch(), -100);
        due("no line behind ;", batch(x, "0:put 1;"), -108);
        due("no stream", batch(x, "8:put 1"), -100);
        due("no such stream", batch(x, "07:put 1"), -300);
        due("no :", batch(x, "0put 1"), -101);
        due("no command", batch(x, "0:pu 1"), -102);
        due("a fault ahead of refused", batch(x, "2:put 1;x"), -108);
        due("a fault in the last", batch(x, "0:put 1;0:put 1000"), -114);
        due("the tape is empty", x.count(2), 0);
        due("twenty", batch(x, "0:put 1;0:put 1;0:put 1;0:put 1;0:put 1;0:put 1;0:put 1;0:put 1;0:put 1;0:put 1;"
            + "0:put 1;0:put 1;0:put 1;0:put 1;0:put 1;0:put 1;0:put 1;0:put 1;0:put 1;0:put 1"), 20);
        due("twenty and ;", batch(x, "0:put 1;0:put 1;0:put 1;0:put 1;0:put 1;0:put 1;0:put 1;0:put 1;0:put 1;"
            + "0:put 1;0:put 1;0:put 1;0:put 1;0:put 1;0:put 1;0:put 1;0:put 1;0:put 1;0:put 1;0:put 1;"), -260);
        x = filled(238);
        due("no room for the third", batch(x, "0:put 1;0:put 1;0:put 1"), -302);
        due("no room for two", batch(x, "0:put 1;0:send 1 to 1"), -301);
        due("none has been", x.count(0), 238);
        due("refused only", x.led(3), 0);
        due("two", batch(x, "0:send 1 to 1"), 2);

        promise = "5";
        x = two();
        due("first", upcast(x, "put:a*2,a+b"), 2);
        due("another kind", upcast(x, "opened:a,b"), 2);
        due("second", upcast(x, "put:a+b,b"), 3);
        due("third", upcast(x, "put:a,b"), 4);
        due("full", upcast(x, "put:a,b"), FULL);
        due("the tape is empty", x.count(2), 0);
        due("a fault ahead of full", upcast(x, "put:a,k"), -106);
        due("upcasters", x.count(1), 4);
        due("both of a, b as they were", x.event(3, 6), 150);
        due("both of a, b as they were", x.event(3, 7), 50);
        due("empty", x.upcast(), -100);
        due("no kind", upcast(x, "open:a,b"), -100);
        due("no :", upcast(x, "put"), -103);
        due("one C", upcast(x, "put:a"), -105);
        due("no second C", upcast(x, "put:a,"), -106);
        due("more", upcast(x, "put:a,b,"), -107);
        due("a word of two letters", upcast(x, "put:ab"), -104);
        due("a word of two letters", upcast(x, "put:a,ba"), -106);
        due("a word in brackets", upcast(x, "put:(bb),b"), -105);
    }

    private static void faultsOfCommands() {
        StockEvents x = two();
        due("empty", ask(x, 0, ""), -100);
        due("no such word", ask(x, 0, "op 1"), -100);
        due("a longer word", ask(x, 0, "puts 1"), -100);
        due("a longer word", ask(x, 0, "putz 1"), -100);
        due("a longer word", ask(x, 0, "aput 1"), -100);
        due("the 7th stream", ask(x, 0, "send 1 to 7"), -25);
        due("another byte", ask(x, 0, "Put 1"), -100);
        due("word alone", ask(x, 0, "put"), -103);
        due("no number", ask(x, 0, "put "), -104);
        due("two blanks", ask(x, 0, "put  1"), -104);
        due("no blank", ask(x, 0, "put1"), -103);
        due("below 0", ask(x, 0, "put -1"), -104);
        due("too big", ask(x, 0, "put 1000"), -104);
        due("too big, five figures", ask(x, 0, "put 99999"), -104);
        due("fifth figure", ask(x, 0, "put 00012"), -108);
        due("four figures", ask(x, 0, "put 0012"), 3);
        due("more", ask(x, 0, "put 1 "), -105);
        due("more", ask(x, 0, "close 1"), -105);
        due("a C only in a policy", ask(x, 0, "put (1)"), -104);
        due("send short", ask(x, 0, "send 1"), -106);
        due("send to a word", ask(x, 0, "send 1 too 1"), -107);
        due("send nowhere", ask(x, 0, "send 1 to "), -110);
        due("send to 8", ask(x, 0, "send 1 to 8"), -110);
        due("send to 10", ask(x, 0, "send 1 to 10"), -110);
        due("send and more", ask(x, 0, "send 1 to 1x"), -111);
        due("nothing came", x.count(0), 4);
    }

    private static void promises6to11() {
        promise = "6";
        StockEvents x = two();
        ask(x, 0, "hold 20");
        due("open", x.state(0, 0), 1);
        due("stock", x.state(0, 1), 50);
        due("held", x.state(0, 2), 20);
        due("price", x.state(0, 3), 7);
        due("version", x.state(0, 4), 3);
        due("another", x.state(1, 3), 3);
        due("none", x.state(7, 4), 0);
        due("bad", x.state(8, 0), VOID);
        due("bad", x.state(-1, 0), VOID);
        due("bad", x.state(0, 5), VOID);
        due("bad", x.state(0, -1), VOID);
        due("upcaster", upcast(x, "held:a*2+s,b"), 2);
        due("read", x.state(0, 2), 40);
        due("written in the format of then", ask(x, 0, "hold 10"), 4);
        due("read", x.state(0, 2), 50);
        ask(x, 0, "free 50");
        ask(x, 0, "take 50");
        ask(x, 0, "price 1");
        due("held", x.state(0, 2), 0);
        due("price", x.state(0, 3), 1);
        ask(x, 0, "close");
        due("closed", x.state(0, 0), 2);
        due("wraps", upcast(x, "put:a*9999*9999*9999,b"), 2);
        due("wraps", x.state(0, 1), 50 * 9999 * 9999 * 9999 - 50);

        promise = "7";
        x = two();
        ask(x, 0, "take 20");
        due("0", x.at(0, 0, 0), 0);
        due("1", x.at(0, 1, 0), 1);
        due("2", x.at(0, 2, 1), 50);
        due("3", x.at(0, 3, 1), 30);
        due("price", x.at(0, 3, 3), 7);
        due("bad", x.at(0, 4, 1), VOID);
        due("bad", x.at(0, -1, 1), VOID);
        due("bad", x.at(0, 1, 4), VOID);
        due("bad", x.at(0, 1, -1), VOID);
        due("bad", x.at(8, 0, 0), VOID);
        upcast(x, "put:a+1,b");
        due("read now", x.at(0, 2, 1), 51);

        promise = "8";
        x = two();
        ask(x, 0, "put 1");
        due("from the first on", x.steps(0, 3), 3);
        due("none", x.steps(0, 0), 0);
        due("snap", x.snap(0), 3);
        due("behind it", x.steps(0, 3), 0);
        due("ahead of it", x.steps(0, 2), 2);
        ask(x, 0, "put 1");
        due("one", x.steps(0, 4), 1);
        upcast(x, "closed:a,b");
        due("an upcaster came", x.steps(0, 4), 4);
        due("bad", x.steps(0, 5), BAD);
        due("bad", x.steps(0, -1), BAD);
        for (int i = 0; i < 5; i++) {
            x.snap(0);
            ask(x, 0, "put 1");
        }
        due("the latest 4: 5 to 8", x.steps(0, 4), 4);
        due("5", x.steps(0, 5), 0);
        due("6", x.steps(0, 6), 0);
        due("8", x.steps(0, 8), 0);
        due("9", x.steps(0, 9), 1);
        x.snap(1);
        x.snap(0);
        due("of its own alone", x.steps(1, 1), 0);
        ask(x, 1, "put 1");
        due("of its own alone", x.steps(1, 2), 1);
        x = two();
        x.snap(1);
        due("of its own alone", x.steps(0, 2), 2);
        due("bad", x.steps(-1, 0), BAD);
        due("bad", x.steps(8, 0), BAD);

        promise = "9";
        x = two();
        due("none yet", x.snap(7), 0);
        due("one", x.snap(0), 2);
        due("another one", x.snap(0), 2);
        due("two and one", x.count(5), 3);
        due("bad", x.snap(8), BAD);
        due("bad", x.snap(-1), BAD);

        promise = "10";
        due("all", x.snaps(0, 0), 2);
        due("good", x.snaps(0, 1), 2);
        upcast(x, "put:a,b");
        due("all", x.snaps(0, 0), 2);
        due("good", x.snaps(0, 1), 0);
        x.snap(0);
        due("good", x.snaps(0, 1), 1);
        x.snap(0);
        x.snap(0);
        due("the latest 4", x.snaps(0, 0), 4);
        due("the latest 4", x.snaps(0, 1), 3);
        x.snap(0);
        due("the latest 4", x.snaps(0, 1), 4);
        due("bad", x.snaps(0, 2), BAD);
        due("bad", x.snaps(0, -1), BAD);
        due("bad", x.snaps(8, 0), BAD);

        promise = "11";
        x = two();
        due("never", x.every(2), 0);
        due("bad", x.every(21), BAD);
        due("bad", x.every(-1), BAD);
        due("as it was", x.count(7), 2);
        ask(x, 0, "put 1");
        due("3", x.count(5), 0);
        ask(x, 0, "put 1");
        due("4", x.count(5), 1);
        due("got, too", ask(x, 0, "send 1 to 1"), 5);
        due("got, too", x.snaps(1, 0), 1);
        due("a batch, too", batch(x, "0:put 1;0:put 1"), 2);
        due("a batch, too", x.snaps(0, 0), 2);
        due("one that is refused does not", batch(x, "0:put 1;0:open 1"), -301);
        due("one that is refused does not", x.snaps(0, 0), 2);
        due("at it", x.steps(0, 6), 0);
        due("20", x.every(20), 2);
        due("0", x.every(0), 20);
        ask(x, 0, "put 1");
        due("never", x.snaps(0, 0), 2);
    }

    private static void promises12to15() {
        promise = "12";
        StockEvents x = two();
        ask(x, 0, "send 5 to 1");
        int[][] want = {{0, 2, 1, 1, 50, 0, 50, 0}, {0, 3, 6, 1, 5, 1, 5, 1}, {1, 2, 7, 1, 5, 0, 5, 0}};
        for (int position = 3; position <= 5; position++) {
            for (int what = 0; what < 8; what++) {
                due("event " + position + " " + what, x.event(position, what), want[position - 3][what]);
            }
        }
        upcast(x, "sent:a+b*10,b-s-2");
        due("A", x.event(4, 4), 5);
        due("A read", x.event(4, 6), 15);
        due("B", x.event(4, 5), 1);
        due("B read", x.event(4, 7), -1);
        ask(x, 0, "send 5 to 1");
        due("format", x.event(4, 3), 1);
        due("format", x.event(6, 3), 2);
        due("read as written", x.event(6, 6), 5);
        upcast(x, "sent:a*2,b");
        due("by both, in order", x.event(4, 6), 30);
        due("by the second", x.event(6, 6), 10);
        due("bad", x.event(0, 0), VOID);
        due("bad", x.event(8, 0), VOID);
        due("bad", x.event(1, 8), VOID);
        due("bad", x.event(1, -1), VOID);

        promise = "13";
        String[] texts = {"1:opened 0.1 a=7 b=0 f1", "4:sent 0.3 a=5 b=1 f1", "7:got 1.3 a=5 b=0 f1"};
        for (String text : texts) {
            int position = text.charAt(0) - '0';
            due(text, x.text(position, -1), text.length());
            for (int i = 0; i < text.length(); i++) {
                due(text, x.text(position, i), text.charAt(i));
            }
            due("fewer", x.text(position, text.length()), NOT);
            due("fewer", x.text(position, MOST), NOT);
        }
        due("format", x.text(6, x.text(6, -1) - 1), '2');
        due("bad", x.text(1, -2), BAD);
        due("bad", x.text(0, 0), BAD);
        due("bad", x.text(8, 0), BAD);
        x = filled(240);
        String last = "240:put 0.239 a=1 b=0 f1";
        due("long", x.text(240, -1), last.length());
        due("long", x.text(240, 10), last.charAt(10));

        promise = "14";
        x = two();
        due("1", x.find(0, 1), 1);
        due("2", x.find(0, 2), 3);
        due("other", x.find(1, 1), 2);
        due("bad", x.find(0, 3), BAD);
        due("bad", x.find(0, 0), BAD);
        due("bad", x.find(0, -1), BAD);
        due("bad", x.find(8, 1), BAD);
        due("bad", x.find(-1, 1), BAD);

        promise = "15";
        ask(x, 0, "send 20 to 1");
        due("0", x.worth(0), 0);
        due("2", x.worth(2), 0);
        due("3", x.worth(3), 350);
        due("4", x.worth(4), 210);
        due("5", x.worth(5), 270);
        due("bad", x.worth(6), Long.MIN_VALUE);
        due("bad", x.worth(-1), Long.MIN_VALUE);
        ask(x, 1, "take 20");
        ask(x, 1, "close");
        due("closed", x.worth(7), 210);
        upcast(x, "taken:a-1,b");
        due("a closed one does not count", x.worth(7), 210);
        upcast(x, "opened:a*9999*9999,b");
        due("as a long", x.worth(3), 50L * (7 * 9999 * 9999));
    }

    private static void promises16to21() {
        promise = "16";
        StockEvents x = two();
        due("bad", project(x, 4, "sum of put by none"), BAD);
        due("bad", x.project(-1), BAD);
        due("the tape stays", x.count(2), 18);
        due("told", x.project(0), 1);
        due("the tape is empty", x.count(2), 0);
        due("live", x.count(6), 1);
        due("if", project(x, 3, "last of put+got+put by stream if a>5"), 1);
        due("no checkpoint", x.look(0, 0, 0), 0);
        due("no rows", x.look(0, 0, 1), 0);
        x.deliver(0, 0, 1, 3);
        due("a fault", project(x, 0, "sum of put by nothing"), -114);
        due("stays", x.look(0, 0, 0), 3);
        due("empty", x.project(0), -100);
        due("no fold", project(x, 0, "sums of put by none"), -100);
        due("no of", project(x, 0, "sum or put by none"), -104);
        due("no kind", project(x, 0, "sum of puts by none"), -107);
        due("all+", project(x, 0, "sum of all+put by none"), -110);
        due("+all", project(x, 0, "sum of put+all by none"), -111);
        due("+", project(x, 0, "sum of put+ by none"), -111);
        due("no by", project(x, 0, "sum of put"), -110);
        due("no key", project(x, 0, "sum of put by "), -114);
        due("a blank", project(x, 0, "sum of put by none "), -119);
        due("no C", project(x, 0, "sum of put by none if "), -122);
        due("no if", project(x, 0, "sum of put by none or a"), -119);
        due("more", project(x, 0, "sum of put by none if a "), -123);
        due("no blank", project(x, 0, "sum of put by none if(a)"), -121);
        due("a word of two letters", project(x, 0, "sum of put by none if a>bs"), -124);
        due("no letter of a watch", project(x, 0, "sum of put by none if ak"), -122);
        x.rebuild(0);
        due("beside", x.look(0, 1, 0), 0);
        due("anew", project(x, 0, "count of all by kind"), 1);
        due("anew", x.look(0, 0, 0), 0);
        due("none beside", x.look(0, 1, 0), VOID);

        promise = "17";
        x = two();
        due("none live", rebuild(x, 0, "sum of put by none"), STATE);
        due("bad", x.rebuild(4), BAD);
        due("bad", x.rebuild(-1), BAD);
        due("the tape stays", x.count(2), 18);
        x.project(0);
        x.deliver(0, 0, 1, 3);
        due("of the live one's text", x.rebuild(0), 1);
        due("without rows", x.look(0, 1, 1), 0);
        due("checkpoint", x.look(0, 1, 0), 0);
        due("the same", x.deliver(0, 1, 1, 3), 3);
        due("the same", x.row(0, 1, 0), 50);
        due("live as it was", x.row(0, 0, 0), 50);
        due("a fault", rebuild(x, 0, "sum of put by"), -113);
        due("a fault at 0", rebuild(x, 0, "x"), -100);
        due("a word of two letters", rebuild(x, 0, "sum of put by none if aa"), -122);
        due("no third one", x.look(0, 2, 0), VOID);
        due("no third one", x.row(0, 2, 0), VOID);
        due("no third one", x.deliver(0, 2, 1, 1), BAD);
        due("no such projection", x.look(4, 1, 0), VOID);
        due("the tape is empty", x.count(2), 0);
        due("stays", x.row(0, 1, 0), 50);
        due("of the tape", rebuild(x, 0, "count of all by stream"), 1);
        x.deliver(0, 1, 1, 3);
        due("another", x.row(0, 1, 0), 2);

        promise = "18";
        x = two();
        due("none", x.deliver(0, 0, 1, 1), STATE);
        project(x, 0, "sum of put by stream");
        due("none beside", x.deliver(0, 1, 1, 1), STATE);
        due("bad", x.deliver(4, 0, 1, 1), BAD);
        due("bad", x.deliver(0, 2, 1, 1), BAD);
        due("bad", x.deliver(0, 0, 0, 1), BAD);
        due("bad", x.deliver(0, 0, 1, 0), BAD);
        due("bad", x.deliver(0, 0, 1, 241), BAD);
        due("a gap", x.deliver(0, 0, 2, 2), 0);
        due("a gap", x.led(6), 1);
        due("two", x.deliver(0, 0, 1, 2), 2);
        due("again", x.deliver(0, 0, 1, 2), 0);
        due("skipped", x.led(5), 2);
        due("as far as there are such", x.deliver(0, 0, 2, 240), 1);
        due("skipped", x.led(5), 3);
        due("handled", x.led(4), 3);
        due("just once", x.row(0, 0, 0), 50);
        due("none there", x.deliver(0, 0, 9, 1), 0);
        due("none there", x.deliver(0, 0, MOST, 240), 0);
        due("no gap by these", x.led(6), 1);
        upcast(x, "put:a*2,b");
        due("as of then", x.row(0, 0, 0), 50);
        ask(x, 0, "put 3");
        due("by upcasters as of then", x.deliver(0, 0, 4, 1), 1);
        due("53", x.row(0, 0, 0), 53);

        promise = "19";
        due("none beside", x.swap(0), STATE);
        due("bad", x.swap(4), BAD);
        due("bad", x.swap(-1), BAD);
        rebuild(x, 0, "count of put by stream");
        x.deliver(0, 1, 1, 3);
        due("behind", x.swap(0), STATE);
        due("still beside", x.look(0, 1, 0), 3);
        x.deliver(0, 1, 4, 1);
        due("swapped", x.swap(0), 4);
        due("its rows", x.row(0, 0, 0), 2);
        due("none beside", x.look(0, 1, 0), VOID);
        due("none beside", x.swap(0), STATE);

        promise = "20";
        x = two();
        ask(x, 1, "put 5");
        due("none", x.look(0, 0, 0), VOID);
        project(x, 0, "sum of put by stream");
        due("bad", x.look(4, 0, 0), VOID);
        due("bad", x.look(0, 2, 0), VOID);
        due("bad", x.look(0, 0, 5), VOID);
        due("bad", x.look(0, 0, -1), VOID);
        due("true of none", x.look(0, 0, 3), 1);
        due("not handled", x.look(0, 0, 2), 4);
        x.deliver(0, 0, 1, 3);
        due("checkpoint", x.look(0, 0, 0), 3);
        due("rows", x.look(0, 0, 1), 1);
        due("not handled", x.look(0, 0, 2), 1);
        due("true", x.look(0, 0, 3), 1);
        x.deliver(0, 0, 4, 1);
        due("rows", x.look(0, 0, 1), 2);
        due("sum", x.look(0, 0, 4), 55);
        upcast(x, "opened:a+1,b");
        due("still true", x.look(0, 0, 3), 1);
        upcast(x, "put:a+1,b");
        due("not true", x.look(0, 0, 3), 0);
        x.rebuild(0);
        x.deliver(0, 1, 1, 4);
        due("true again", x.look(0, 1, 3), 1);
        due("sum", x.look(0, 1, 4), 57);
        project(x, 1, "count of put by stream if a>50");
        x.deliver(1, 0, 1, 4);
        due("C", x.look(1, 0, 1), 1);
        upcast(x, "put:a-1,b");
        due("a row that would not be", x.look(1, 0, 3), 0);

        promise = "21";
        x = two();
        batch(x, "0:put 9;0:put 60;1:put 3;1:price 8");
        due("none", x.row(0, 0, 0), VOID);
        String[] folds = {"sum", "count", "most", "least", "first", "last"};
        int[] byStream = {119, 3, 60, 9, 50, 60};
        for (int i = 0; i < folds.length; i++) {
            project(x, 0, folds[i] + " of put by stream");
            x.deliver(0, 0, 1, 240);
            due(folds[i], x.row(0, 0, 0), byStream[i]);
            due(folds[i], x.row(0, 0, 1), i == 1 ? 1 : 3);
            due(folds[i], x.row(0, 0, 2), VOID);
        }
        project(x, 0, "count of all by kind");
        x.deliver(0, 0, 1, 240);
        due("opened", x.row(0, 0, 0), 2);
        due("put", x.row(0, 0, 1), 4);
        due("priced", x.row(0, 0, 5), 1);
        due("closed", x.row(0, 0, 8), VOID);
        project(x, 0, "sum of put+priced by none if a<10");
        x.deliver(0, 0, 1, 240);
        due("none", x.row(0, 0, 0), 20);
        due("none", x.look(0, 0, 1), 1);
        due("bad", x.row(0, 0, 9), VOID);
        due("bad", x.row(0, 0, -1), VOID);
        due("bad", x.row(0, 2, 0), VOID);
        due("bad", x.row(4, 0, 0), VOID);
        due("none beside", x.row(0, 1, 0), VOID);
    }

    private static void promises22to24() {
        promise = "22";
        StockEvents x = two();
        due("bad", policy(x, 4, "on put do take 1"), BAD);
        due("bad", x.policy(-1), BAD);
        due("the tape stays", x.count(2), 16);
        due("told", x.policy(0), 1);
        due("all there are", x.policyOf(0, 0), 3);
        due("if", policy(x, 3, "on put+got if a>2 do send (a/2) to 1"), 1);
        due("empty", x.policy(0), -100);
        due("no on", policy(x, 0, "or put do take 1"), -100);
        due("no kind", policy(x, 0, "on puts do take 1"), -103);
        due("no do", policy(x, 0, "on put then do take 1"), -107);
        due("no C", policy(x, 0, "on put if  do take 1"), -110);
        due("no blank", policy(x, 0, "on put if a>2do take 1"), -113);
        due("no do", policy(x, 0, "on put if a if take 1"), -112);
        due("no command", policy(x, 0, "on put do tak 1"), -110);
        due("not closed", policy(x, 0, "on put do take (a"), -117);
        due("a word of two letters", policy(x, 0, "on put if ab do take 1"), -110);
        due("a word with do", policy(x, 0, "on put if ado take 1"), -110);
        due("a word of two letters as n", policy(x, 0, "on put do take (as)"), -116);
        due("no blanks in it", policy(x, 0, "on put do take ( a)"), -116);
        due("more", policy(x, 0, "on put do close 1"), -115);
        due("no C there", policy(x, 0, "on put do send 1 to (s)"), -120);
        due("no such number", policy(x, 0, "on put do take 1000"), -115);
        due("stays", x.policyOf(0, 0), 3);
        due("six open with its own", policy(x, 1, "on put do take ((((((a))))))"), 1);
        due("seven open with its own", policy(x, 1, "on put do take (((((((a)))))))"), -121);
        due("seven open, too early an end", policy(x, 1, "on put do take ((((((("), -121);
        due("six open, too early an end", policy(x, 1, "on put do take (((((("), -121);
        due("five - inside", policy(x, 1, "on put do take (-----a)"), 1);
        due("six - inside", policy(x, 1, "on put do take (------a)"), -121);
        due("it's closed behind a part", policy(x, 1, "on put do take ((((((a)))))+(((((b))))))"), 1);
        due("seven open, to be sent", policy(x, 1, "on put do send (-(((((a)))))) to 1"), -121);
        due("six open behind if", policy(x, 1, "on put if ((((((a)))))) do take ((((((a))))))"), 1);
        due("seven open behind if", policy(x, 1, "on put if (((((((a))))))) do take 1"), -116);

        promise = "23";
        x = two();
        due("none", x.run(0, 1), STATE);
        policy(x, 0, "on put if a>2 do send (a/2) to 1");
        due("bad", x.run(4, 1), BAD);
        due("bad", x.run(0, 0), BAD);
        due("bad", x.run(0, 241), BAD);
        due("none behind", x.run(0, 240), 0);
        ask(x, 0, "put 9");
        ask(x, 0, "put 2");
        due("one", x.run(0, 1), 1);
        due("sent 4", x.state(1, 1), 4);
        due("the rest, its own events too", x.run(0, 240), 3);
        due("sent no more", x.state(1, 1), 4);
        policy(x, 1, "on put do put (a-9*(a=1))");
        ask(x, 1, "put 3");
        due("its own", x.run(1, 5), 5);
        due("its own", x.state(1, 1), 4 + 6 * 3);
        policy(x, 1, "on put do put (a-9)");
        ask(x, 1, "put 3");
        due("held within 0", x.run(1, 1), 1);
        due("held within 0", x.event(x.count(0), 4), 0);
        policy(x, 1, "on put do put (a*9999)");
        ask(x, 1, "put 3");
        due("held within 999", x.run(1, 1), 1);
        due("held within 999", x.event(x.count(0), 4), 999);
        policy(x, 2, "on put do take (a+1)");
        upcast(x, "put:a+1,b");
        ask(x, 1, "put 3");
        upcast(x, "put:a+1,b");
        due("read", x.run(2, 1), 1);
        due("read", x.event(x.count(0), 4), 5);
        x = filled(239);
        due("no room, so it is not handled", x.run(3, 240), 1);
        due("no room, so it is not handled", x.policyOf(3, 0), 239);
        due("none", x.run(3, 1), 0);
        due("full", x.count(0), 240);
        x = two();
        policy(x, 0, "on put+taken do take 60");
        ask(x, 0, "put 5");
        due("refused and handled", x.run(0, 240), 1);
        due("refused and handled", x.policyOf(0, 0), 4);

        promise = "24";
        due("checkpoint", x.policyOf(0, 0), 4);
        due("done", x.policyOf(0, 1), 0);
        due("refused", x.policyOf(0, 2), 1);
        ask(x, 0, "put 20");
        due("two", x.run(0, 2), 2);
        due("done", x.policyOf(0, 1), 1);
        due("refused", x.policyOf(0, 2), 2);
        due("bad", x.policyOf(0, 3), BAD);
        due("bad", x.policyOf(0, -1), BAD);
        due("bad", x.policyOf(4, 0), BAD);
        due("none", x.policyOf(1, 0), STATE);
        policy(x, 0, "on put do take 1");
        due("anew", x.policyOf(0, 1) + x.policyOf(0, 2), 0);
    }

    private static void promises25to29() {
        promise = "25";
        StockEvents x = two();
        due("2", x.see(0, 0), 2);
        due("none", x.see(3, 7), 0);
        due("bad", x.see(4, 0), BAD);
        due("bad", x.see(-1, 0), BAD);
        due("bad", x.see(0, 8), BAD);

        promise = "26";
        due("nothing", x.harmless(), 0);
        due("all", harmless(x, "all"), 9);
        due("twice", harmless(x, "put+put+priced"), 2);
        due("a fault", harmless(x, "put+"), -104);
        due("a fault", harmless(x, "putt"), -100);
        due("a fault", harmless(x, "put priced"), -103);
        due("the tape is empty", x.count(2), 0);

        promise = "27";
        x = two();
        due("seen none", attempt(x, 0, 0, "x"), STATE);
        due("bad", x.attempt(4, 0), BAD);
        due("bad", x.attempt(0, 2), BAD);
        due("bad", x.attempt(0, -1), BAD);
        due("the tape stays", x.count(2), 1);
        x.see(0, 0);
        due("a fault", x.attempt(0, 0), -100);
        due("done", attempt(x, 0, 0, "put 1"), 3);
        due("it has seen it", attempt(x, 0, 0, "put 1"), 4);
        ask(x, 0, "price 5");
        due("another version", attempt(x, 0, 0, "put 1"), CONFLICT);
        due("none harmless", attempt(x, 0, 1, "put 1"), CONFLICT);
        harmless(x, "priced+freed");
        due("not asked for", attempt(x, 0, 0, "put 1"), CONFLICT);
        due("asked for", attempt(x, 0, 1, "put 1"), 6);
        due("seen", attempt(x, 0, 0, "put 1"), 7);
        ask(x, 0, "price 5");
        ask(x, 0, "put 5");
        ask(x, 0, "price 5");
        due("one is not", attempt(x, 0, 1, "put 1"), CONFLICT);
        due("see", x.see(0, 0), 10);
        ask(x, 1, "put 1");
        due("another stream", attempt(x, 0, 0, "put 1"), 11);
        due("refused", attempt(x, 0, 0, "take 999"), -23);
        due("it stays seen", attempt(x, 0, 0, "take 1"), 12);
        ask(x, 0, "put 5");
        due("conflict ahead of refused", attempt(x, 0, 0, "take 999"), CONFLICT);
        x = filled(240);
        x.see(1, 0);
        due("full", attempt(x, 1, 0, "put 1"), FULL);
        due("refused", attempt(x, 1, 0, "open 1"), -22);

        promise = "28";
        x = two();
        batch(x, "0:take 30;0:put 5;0:put 50;0:take 60");
        due("first", watch(x, 0, 0, "k>20"), 2);
        due("how many", watch(x, 0, 1, "k>20"), 3);
        due("behind one another", watch(x, 0, 2, "k>20"), 2);
        due("last", watch(x, 0, 3, "k>20"), 5);
        due("never", watch(x, 0, 0, "k>99"), NOT);
        due("never", watch(x, 0, 1, "k>99"), 0);
        due("never", watch(x, 0, 2, "k>99"), 0);
        due("never", watch(x, 0, 3, "k>99"), NOT);
        due("from 0 on", watch(x, 0, 0, "o=0"), 0);
        due("price, version", watch(x, 0, 0, "p*10+v=73"), 3);
        due("held", watch(x, 0, 1, "h"), 0);
        due("none of its own", watch(x, 7, 1, "1"), 1);
        due("all", watch(x, 0, 2, "1"), 7);
        due("not a", watch(x, 0, 0, "k>a"), -102);
        due("a word of two letters", watch(x, 0, 0, "k>hp"), -102);
        due("a word of two letters", watch(x, 0, 0, "vv"), -100);
        due("a letter, then a figure", watch(x, 0, 0, "v1"), -101);
        due("empty", watch(x, 0, 0, ""), -100);
        due("more", watch(x, 0, 0, "k "), -101);
        due("bad", watch(x, 8, 0, "k"), BAD);
        due("bad", x.watch(0, 4), BAD);
        due("bad", x.watch(0, -1), BAD);
        due("the tape stays", x.count(2), 1);
        x.watch(0, 0);
        upcast(x, "taken:a*2,b");
        due("read now", watch(x, 0, 0, "k<0"), 3);

        promise = "29";
        x = two();
        String text = "0:put 5;0:send 10 to 1;1:price 9;0:hold 3;2:put 1;0:put 1";
        long[] want = {4, 5, 1, 45, 3, 7};
        for (int what = 0; what < 6; what++) {
            due("foresee " + what, foresee(x, 0, what, text), want[what]);
        }
        due("another", foresee(x, 1, 5, text), 9);
        due("nothing is done", x.count(0), 3);
        due("nothing is done", x.state(0, 1), 50);
        due("nothing is told", x.led(3) + x.led(0), 3);
        due("a fault", foresee(x, 0, 0, "0:put"), Long.MIN_VALUE + 105);
        due("empty", foresee(x, 0, 0, ""), Long.MIN_VALUE + 100);
        due("bad", foresee(x, 8, 0, "0:put 1"), Long.MIN_VALUE);
        due("bad", x.foresee(0, 6), Long.MIN_VALUE);
        due("bad", x.foresee(0, -1), Long.MIN_VALUE);
        due("the tape stays", x.foresee(0, 0), 1);
        x = filled(238);
        due("too long", foresee(x, 0, 1, "0:put 1;0:send 1 to 1"), 1);
        due("too long", foresee(x, 0, 0, "0:put 1;0:put 1;0:put 1"), 2);
    }

    private static void promises30to35() {
        promise = "30";
        StockEvents x = two();
        batch(x, "0:put 9;1:put 60;0:take 8");
        due("how many", x.tally(1, 1, 6, 0), 3);
        due("sum", x.tally(1, 1, 6, 1), 119);
        due("most", x.tally(1, 1, 6, 2), 60);
        due("some", x.tally(1, 3, 4, 1), 59);
        due("one", x.tally(1, 4, 4, 2), 9);
        due("the last", x.tally(2, 6, 6, 0), 1);
        due("none", x.tally(8, 1, 6, 0), 0);
        due("none", x.tally(8, 1, 6, 1), 0);
        due("none", x.tally(8, 1, 6, 2), VOID);
        upcast(x, "put:0-a,b");
        due("read", x.tally(1, 1, 6, 2), -9);
        due("bad", x.tally(9, 1, 6, 0), VOID);
        due("bad", x.tally(-1, 1, 6, 0), VOID);
        due("bad", x.tally(1, 0, 6, 0), VOID);
        due("bad", x.tally(1, 1, 7, 0), VOID);
        due("bad", x.tally(1, 4, 3, 0), VOID);
        due("bad", x.tally(1, 1, 6, 3), VOID);
        due("bad", x.tally(1, 1, 6, -1), VOID);

        promise = "31";
        due("none", x.digest(0), 7);
        int d = 7;
        for (char sign : "1:opened 0.1 a=7 b=0 f12:opened 1.1 a=3 b=0 f1".toCharArray()) {
            d = d * 31 + sign;
        }
        due("two", x.digest(2), Integer.toUnsignedLong(d));
        due("bad", x.digest(7), BAD);
        due("bad", x.digest(-1), BAD);
        boolean big = false;
        for (int i = 0; i <= 6; i++) {
            big |= x.digest(i) > MOST;
            due("from 0 on", x.digest(i) < 0 ? 1 : 0, 0);
        }
        due("32 bits", big ? 1 : 0, 1);

        promise = "32 and 33";
        x = two();
        due("none kept", x.back(), STATE);
        ask(x, 0, 2, 9, "put 1");
        upcast(x, "opened:a+1,b");
        x.every(3);
        x.snap(0);
        project(x, 0, "sum of put by stream");
        x.deliver(0, 0, 1, 3);
        x.rebuild(0);
        policy(x, 1, "on put do put 1");
        harmless(x, "priced");
        x.see(2, 1);
        due("kept", x.image(), 4);
        ask(x, 0, -1, 10, "put 1");
        x.run(1, 2);
        upcast(x, "put:a+1,b");
        x.every(1);
        x.snap(0);
        x.deliver(0, 0, 4, 1);
        x.deliver(0, 1, 1, 4);
        x.swap(0);
        project(x, 1, "sum of all by none");
        policy(x, 2, "on put do put 1");
        harmless(x, "");
        x.see(2, 0);
        x.see(3, 0);
        type(x, "put 7");
        for (int round = 0; round < 2; round++) {
            due("back", x.back(), 4);
            due("events", x.count(0), 4);
            due("stock", x.state(0, 1), 51);
            due("version", x.state(0, 4), 3);
            due("upcasters", x.count(1), 1);
            due("read", x.event(3, 6), 50);
            due("snapshots", x.snaps(0, 0), 1);
            due("good", x.snaps(0, 1), 1);
            due("every", x.count(7), 3);
            due("numbers", x.count(4), 1);
            due("live", x.count(6), 1);
            due("checkpoint", x.look(0, 0, 0), 3);
            due("row", x.row(0, 0, 0), 50);
            due("beside", x.look(0, 1, 0), 0);
            due("policy", x.policyOf(1, 0), 4);
            due("policy", x.policyOf(1, 1), 0);
            due("no policy", x.policyOf(2, 0), STATE);
            due("led", x.led(0), 4);
            due("led", x.led(4), 3);
            due("not seen", x.attempt(3, 0), STATE);
            due("the tape is not kept", x.count(2), round == 0 ? 5 : 0);
            if (round == 0) {
                due("the tape is as it was", x.ask(1, 1, 0), 2);
                due("seen", attempt(x, 2, 0, "put 1"), CONFLICT);
                ask(x, 1, "price 3");
                due("a number of before", ask(x, 0, 0, 9, "put 1"), 3);
                due("a number of behind", ask(x, 0, 3, 10, "put 1"), 4);
                due("handled", x.deliver(0, 1, 1, 9), 7);
            }
        }
        ask(x, 1, "price 2");
        due("harmless", attempt(x, 2, 1, "put 1"), 3);
        due("another image", x.image(), 6);
        ask(x, 0, "put 1");
        due("back to it", x.back(), 6);

        promise = "34";
        x = two();
        due("done", x.led(0), 3);
        batch(x, "0:put 1;0:send 1 to 1");
        due("lines", x.led(0), 5);
        ask(x, 0, -1, 4, "put 1");
        ask(x, 0, -1, 4, "put 1");
        due("repeated", x.led(1), 1);
        ask(x, 0, 1, 0, "put 1");
        x.see(0, 0);
        attempt(x, 0, 0, "put 1");
        due("by a client", x.led(0), 7);
        ask(x, 0, "put 1");
        attempt(x, 0, 0, "put 1");
        due("conflicts", x.led(2), 2);
        ask(x, 2, "put 1");
        batch(x, "0:put 1;2:put 1;2:put 1");
        due("refused", x.led(3), 2);
        x.see(0, 2);
        attempt(x, 0, 0, "put 1");
        due("a client's", x.led(3), 3);
        policy(x, 0, "on put do take 1");
        policy(x, 1, "on put do open 1");
        ask(x, 0, "put 1");
        x.run(0, 1);
        x.run(1, 1);
        due("a policy's", x.led(0), 10);
        due("a policy's", x.led(3), 4);
        project(x, 0, "sum of all by none");
        x.deliver(0, 0, 1, 5);
        x.deliver(0, 0, 4, 3);
        x.deliver(0, 0, 8, 3);
        due("handled", x.led(4), 6);
        due("skipped", x.led(5), 2);
        due("gaps", x.led(6), 1);
        due("bad", x.led(7), BAD);
        due("bad", x.led(-1), BAD);

        promise = "35";
        x = two();
        ask(x, 0, -1, 7, "put 1");
        upcast(x, "put:a,b");
        upcast(x, "got:a,b");
        project(x, 2, "sum of all by none");
        x.rebuild(2);
        x.snap(5);
        x.snap(5);
        x.every(20);
        x.feed('a');
        int[] want = {4, 2, 1, 2, 1, 2, 1, 20};
        for (int what = 0; what < 8; what++) {
            due("count " + what, x.count(what), want[what]);
        }
        due("bad", x.count(8), BAD);
        due("bad", x.count(-1), BAD);
    }
}

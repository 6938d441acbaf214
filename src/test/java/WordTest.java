/** Promises 13 and 20 to 23: the word, what the crowd reads, the fewest trades, the next one, how long it takes. */
public final class WordTest {
    private static final Due due = new Due("WordTest");

    public static void main(String[] args) {
        want();
        reads();
        readsHidden();
        spelled();
        fewestTrades();
        ifTraded();
        ifTradedEqualLetters();
        nextTrade();
        nextTradeLate();
        spelledIn();
        spelledInWithTurns();
        spelledInLimits();
        due.close();
    }

    private static void want() {
        String[] texts = {"", "A", "a1", "ab,", "abcdefghijklm", "abcdefghijkl1", "`", "{"};
        int[] faults = {0, 0, 1, 2, 12, 12, 0, 0};
        for (int i = 0; i < texts.length; i++) {
            KiteWords kites = new KiteWords();
            due.is("want '" + texts[i] + "'", Due.want(kites, texts[i]), -1000100 - faults[i]);
            due.is("no act", kites.count(12), 0);
            due.is("no word", kites.count(6), 0);
        }
        KiteWords kites = new KiteWords();
        due.is("a word", Due.want(kites, "abcdefghijkz"), 12);
        due.is("the text stays", kites.count(13), 12);
        due.is("again", kites.want(), Due.NONE);
        due.is("another of its length", Due.want(kites, "abcdefghijka"), 12);
        due.is("its beginning", Due.want(kites, "abc"), 3);
        due.is("a longer one", Due.want(kites, "abcd"), 4);
        due.is("letters", kites.count(6), 4);
        due.is("acts", kites.count(12), 4);
        due.is("a fault", Due.want(kites, "ab?"), -1000102);
        due.is("leaves the word", Due.want(kites, "abcd"), Due.NONE);
    }

    private static void reads() {
        KiteWords kites = new KiteWords();
        kites.wind(1, 5);
        Due.write(kites, "a9,b1,c4,d7");
        kites.readRow();
        // at 45, 15, 40, 65
        due.holds("from the south", Due.read(kites).equals("bcad"));
        kites.crowd(true);
        due.holds("from the north", Due.read(kites).equals("dacb"));
        due.is("reads(4)", kites.reads(4), Due.NONE);
        due.is("reads(-1)", kites.reads(-1), Due.BAD_VALUE);
        due.is("reads(greatest)", kites.reads(Integer.MAX_VALUE), Due.NONE);
        due.is("a with b, c with d", kites.wind(3, 5), 2);
        due.is("nothing to read", kites.reads(0), Due.NONE);
    }

    private static void readsHidden() {
        KiteWords kites = new KiteWords();
        kites.wind(1, 5);
        Due.write(kites, "a5,b3,c1,d9");
        kites.readRow();
        // three at 25
        due.holds("three hide one another", Due.read(kites).equals("d"));
        due.is("count(5)", kites.count(5), 1);
        due.is("a is not tangled", kites.flier(0, 4), Due.NONE);
        due.is("and cannot be read", kites.flier(0, 6), 0);

        KiteWords far = new KiteWords();
        far.wind(1, 5);
        Due.write(far, "a5,b9,c1");
        far.readRow();
        due.holds("not only neighbours hide", Due.read(far).equals("b"));

        KiteWords tangled = Due.withRow("a5,b9,c1,d3");
        tangled.wind(1, 5);
        // a at 25; b at 55 and c at 25 are tangled; d at 45
        due.is("b with c", tangled.flier(1, 4), 2);
        due.holds("a tangled flier's kite hides too", Due.read(tangled).equals("d"));
    }

    private static void spelled() {
        KiteWords kites = Due.withRow("a1,b9");
        due.is("without a word", kites.count(8), 0);
        Due.want(kites, "ab");
        due.is("spelled", kites.count(8), 1);
        kites.crowd(true);
        due.is("from the north it is not", kites.count(8), 0);
        kites.wind(3, 5);
        // a at -5, b at 10 - 45: tangled
        due.is("tangled kites spell nothing", kites.count(8), 0);
        kites.pass(3);
        due.is("by the wind", kites.count(8), 1);
        due.is("spelled in", kites.spelledIn(), 0);
        due.is("though the trade is one", kites.count(7), 1);
        kites.come('c', 1);
        due.is("one too many", kites.count(8), 0);
        Due.want(kites, "cab");
        due.is("with c", kites.count(8), 1);
        Due.want(kites, "cabs");
        due.is("one too few", kites.count(8), 0);

        KiteWords hidden = new KiteWords();
        hidden.wind(1, 5);
        Due.write(hidden, "a3,b1,c1");
        hidden.readRow();
        Due.want(hidden, "c");
        due.is("all kites must be read", hidden.count(8), 0);
    }

    private static void fewestTrades() {
        String[][] cases = {
            {"a1,b1,c1", "abc", "0", "3"}, {"a1,b1,c1", "cba", "3", "0"}, {"a1,b1,c1", "bca", "2", "1"},
            {"a1,b1,a1", "aab", "1", "1"}, {"a1,b1,a1", "aba", "0", "0"}, {"a1,a1,b1,b1", "bbaa", "4", "0"},
            {"a1,b1,a1,b1", "bbaa", "3", "1"}, {"a1,b1", "abc", "-1", "-1"}, {"a1,b1,c1", "ab", "-1", "-1"},
            {"a1,b1,b1", "aab", "-1", "-1"}, {"a1,b1,c1,d1,e1,f1,g1,h1,i1,j1,k1,l1", "lkjihgfedcba", "66", "0"},
            {"x1", "x", "0", "0"}, {"x1", "y", "-1", "-1"},
        };
        for (String[] c : cases) {
            KiteWords kites = Due.withRow(c[0]);
            due.is("without a word", kites.count(7), Due.NONE);
            Due.want(kites, c[1]);
            int south = Integer.parseInt(c[2]);
            int north = Integer.parseInt(c[3]);
            due.is(c[0] + " to " + c[1], kites.count(7), south < 0 ? Due.NONE : south);
            kites.wind(1, 5);
            due.is("whatever the wind", kites.count(7), south < 0 ? Due.NONE : south);
            kites.crowd(true);
            due.is(c[0] + " to " + c[1] + " from the north", kites.count(7), north < 0 ? Due.NONE : north);
        }
        KiteWords empty = new KiteWords();
        due.is("no flier, no word", empty.count(7), Due.NONE);
        Due.want(empty, "a");
        due.is("no flier", empty.count(7), Due.NONE);
        due.is("no flier spells", empty.count(8), 0);
    }

    private static void ifTraded() {
        KiteWords kites = Due.withRow("a1,b1,c9");
        due.is("no word, good", kites.ifTraded(0, 0), Due.NONE);
        due.is("no word, safe", kites.ifTraded(0, 1), 1);
        due.is("no word, fewest", kites.ifTraded(0, 2), Due.NONE);
        due.is("ifTraded(2, 0)", kites.ifTraded(2, 0), Due.UNKNOWN);
        due.is("ifTraded(-1, 5)", kites.ifTraded(-1, 5), Due.UNKNOWN);
        due.is("ifTraded(least, 0)", kites.ifTraded(Integer.MIN_VALUE, 0), Due.UNKNOWN);
        due.is("ifTraded(0, 3)", kites.ifTraded(0, 3), Due.BAD_VALUE);
        due.is("ifTraded(0, -1)", kites.ifTraded(0, -1), Due.BAD_VALUE);
        Due.want(kites, "acx");
        due.is("other letters, good", kites.ifTraded(0, 0), Due.NONE);
        due.is("other letters, safe", kites.ifTraded(1, 1), 1);
        due.is("other letters, fewest", kites.ifTraded(1, 2), Due.NONE);
        Due.want(kites, "acb");
        due.is("not good", kites.ifTraded(0, 0), 0);
        due.is("then two", kites.ifTraded(0, 2), 2);
        due.is("good", kites.ifTraded(1, 0), 1);
        due.is("then none", kites.ifTraded(1, 2), 0);
        kites.wind(1, 5);
        due.is("not safe", kites.ifTraded(1, 1), 0);
        due.is("but good", kites.ifTraded(1, 0), 1);
        due.is("it tells only", kites.count(1) + kites.count(9) + kites.count(10), 0);
        kites.wind(3, 5);
        // c at 20 - 45 is tangled with b at 10 - 5
        due.is("tangled is not safe", kites.ifTraded(0, 1), 0);
        due.is("tangled, good still", kites.ifTraded(1, 0), 1);
        due.is("tangled, fewest still", kites.ifTraded(1, 2), 0);
        kites.crowd(true);
        // from the north it reads c, b, a
        due.is("from the north", kites.count(7), 2);
        due.is("b to the end", kites.ifTraded(0, 2), 1);
        due.is("b to the front", kites.ifTraded(1, 2), 3);
    }

    private static void ifTradedEqualLetters() {
        KiteWords kites = Due.withRow("a1,a2,b1");
        Due.want(kites, "baa");
        due.is("fewest", kites.count(7), 2);
        due.is("equal letters, fewest", kites.ifTraded(0, 2), 2);
        due.is("equal letters, good", kites.ifTraded(0, 0), 0);
        kites.crowd(true);
        due.is("from the north", kites.count(7), 0);
        due.is("equal letters, fewest", kites.ifTraded(0, 2), 0);
        due.is("equal letters, good", kites.ifTraded(0, 0), 0);
        due.is("nothing is good now", kites.nextTrade(), Due.NONE);
    }

    private static void nextTrade() {
        KiteWords kites = Due.withRow("c1,b9,a1");
        due.is("no word", kites.nextTrade(), Due.NONE);
        Due.want(kites, "abc");
        due.is("the western one", kites.nextTrade(), 0);
        kites.wind(1, 2);
        // c at 2, b at 28, a at 22: b and a are tangled
        due.is("tangled", kites.nextTrade(), Due.NONE);
        kites.pass(3);
        due.is("nor are trades safe", kites.nextTrade(), Due.NONE);
        kites.pay(1, 1);
        due.is("now", kites.nextTrade(), 0);
        kites.trade(0);
        due.is("b stands well", kites.nextTrade(), 1);
        kites.trade(1);
        due.is("the last", kites.nextTrade(), 0);
        kites.trade(0);
        due.is("it is spelled", kites.count(8), 1);
        due.is("no more", kites.nextTrade(), Due.NONE);
        kites.crowd(true);
        due.is("from the north the western one, too", kites.nextTrade(), 0);
        Due.want(kites, "abd");
        due.is("other letters", kites.nextTrade(), Due.NONE);

        KiteWords unsafe = new KiteWords();
        unsafe.wind(1, 5);
        Due.write(unsafe, "d9,c1,b1,a1");
        unsafe.readRow();
        Due.want(unsafe, "abcd");
        due.is("the most western is not safe", unsafe.nextTrade(), 1);
    }

    private static void nextTradeLate() {
        KiteWords kites = Due.withRow("b1,a1");
        Due.want(kites, "ab");
        Due.passTo(kites, 9999);
        due.is("it tells whatever the minutes are", kites.nextTrade(), 0);
        due.is("safe", kites.ifTraded(0, 1), 1);
        due.is("spelled in", kites.spelledIn(), 1);
        due.is("not possible", kites.trade(0), Due.NOT_POSSIBLE);
        due.is("minutes", kites.count(1), 9999);
    }

    private static void spelledIn() {
        KiteWords kites = Due.withRow("c1,b1,a1");
        due.is("no word", kites.spelledIn(), Due.NONE);
        Due.want(kites, "abd");
        due.is("other letters", kites.spelledIn(), Due.NONE);
        Due.want(kites, "abc");
        due.is("three", kites.spelledIn(), 3);
        due.is("it tells only", kites.count(1) + kites.count(9), 0);
        due.holds("the row stays", Due.row(kites).equals("cba"));
        kites.crowd(true);
        due.is("from the north", kites.spelledIn(), 0);
        kites.crowd(false);
        kites.pay(1, 9);
        kites.wind(1, 2);
        due.is("never safe", kites.spelledIn(), Due.NONE);

        KiteWords tangled = Due.withRow("a9,b1");
        Due.want(tangled, "ab");
        tangled.wind(1, 2);
        due.is("tangled, and turned round", tangled.spelledIn(), Due.NONE);
        Due.want(tangled, "ba");
        due.is("it waits for them", tangled.spelledIn(), 3);
        tangled.pass(1);
        due.is("a minute less", tangled.spelledIn(), 2);
    }

    private static void spelledInWithTurns() {
        KiteWords kites = Due.withRow("a1,b9");
        Due.want(kites, "ba");
        due.is("one trade", kites.spelledIn(), 1);
        kites.wind(1, 5);
        due.is("not safe", kites.spelledIn(), Due.NONE);
        kites.planTurn(40, 0, 1);
        due.is("behind the turn", kites.spelledIn(), 41);
        due.is("the plan stays", kites.count(11), 1);
        kites.planTurn(20, 3, 5);
        // from 20 on b is west of a, once they are free
        due.is("by the other turn", kites.spelledIn(), 23);
        kites.undo();
        due.is("as before", kites.spelledIn(), 41);
        Due.passTo(kites, 39);
        due.is("soon", kites.spelledIn(), 2);
    }

    private static void spelledInLimits() {
        KiteWords kites = Due.withRow("a1,b9");
        Due.want(kites, "ba");
        kites.wind(1, 5);
        kites.planTurn(199, 0, 1);
        due.is("200 minutes", kites.spelledIn(), 200);
        kites.dropTurn(199);
        kites.planTurn(200, 0, 1);
        due.is("201 minutes", kites.spelledIn(), Due.NONE);
        kites.pass(1);
        due.is("a minute later", kites.spelledIn(), 200);

        KiteWords late = Due.withRow("c1,b1,a1");
        Due.want(late, "abc");
        late.planTurn(9999, 1, 5);
        Due.passTo(late, 9998);
        due.is("beyond the last minute", late.spelledIn(), 3);
        due.is("the plan stays", late.count(11), 1);
    }
}

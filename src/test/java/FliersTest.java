/** Promises 1 to 6 and 19: a new object, fliers who come, go, pay and trade, and what is told of them. */
public final class FliersTest {
    private static final Due due = new Due("FliersTest");

    public static void main(String[] args) {
        newObject();
        come();
        comeNinetyNine();
        readRow();
        readRowIsAllOrNone();
        go();
        goMovesTangledPair();
        pay();
        tradeWithoutWind();
        tradeTanglesByGap();
        tradeSeenFromTheEast();
        tradeAndItsMinute();
        tradeRefused();
        flier();
        due.close();
    }

    private static void newObject() {
        KiteWords kites = new KiteWords();
        int[] counts = {0, 0, 0, 1, 0, 0, 0, Due.NONE, 0, 0, 0, 0, 0, 0};
        for (int what = 0; what < counts.length; what++) {
            due.is("new: count(" + what + ")", kites.count(what), counts[what]);
        }
        due.is("new: undo()", kites.undo(), Due.NONE);
        due.is("new: restore()", kites.restore(), Due.NONE);
        due.is("new: setTangle(3)", kites.setTangle(3), Due.NONE);
        due.is("new: wind(0, 1)", kites.wind(0, 1), Due.NONE);
        due.is("new: crowd(false)", kites.crowd(false), Due.NONE);
        due.is("new: flier(0, 0)", kites.flier(0, 0), Due.UNKNOWN);
        due.is("new: reads(0)", kites.reads(0), Due.NONE);
        due.is("new: ifTraded(0, 1)", kites.ifTraded(0, 1), Due.UNKNOWN);
        due.is("new: nextTrade()", kites.nextTrade(), Due.NONE);
        due.is("new: spelledIn()", kites.spelledIn(), Due.NONE);
        due.is("new: turnOf(0, 0)", kites.turnOf(0, 0), Due.NONE);
        due.is("new: tangle(0, 0)", kites.tangle(0, 0), Due.NONE);
    }

    private static void come() {
        KiteWords kites = new KiteWords();
        due.is("come('`', 1)", kites.come('`', 1), Due.BAD_VALUE);
        due.is("come('{', 1)", kites.come('{', 1), Due.BAD_VALUE);
        due.is("come('A', 1)", kites.come('A', 1), Due.BAD_VALUE);
        due.is("come(65535, 1)", kites.come((char) 65535, 1), Due.BAD_VALUE);
        due.is("come('a', 0)", kites.come('a', 0), Due.BAD_VALUE);
        due.is("come('a', 10)", kites.come('a', 10), Due.BAD_VALUE);
        due.is("come('a', least)", kites.come('a', Integer.MIN_VALUE), Due.BAD_VALUE);
        due.is("nobody came, history", kites.count(12), 0);
        due.is("come('a', 1)", kites.come('a', 1), 0);
        due.is("come('z', 9)", kites.come('z', 9), 1);
        due.is("an act each", kites.count(12), 2);
        for (int place = 2; place < 12; place++) {
            due.is("come to " + place, kites.come('m', 5), place);
        }
        due.is("the 13th", kites.come('m', 5), Due.FULL);
        due.is("the 13th, bad", kites.come('m', 0), Due.BAD_VALUE);
        due.is("letter of 1", kites.flier(1, 1), 'z');
        due.is("length of 1", kites.flier(1, 2), 9);
        due.is("number of 11", kites.flier(11, 0), 11);

        KiteWords windy = new KiteWords();
        windy.wind(1, 5);
        windy.come('a', 9);
        windy.come('b', 1);
        due.is("who comes tangles nobody", windy.count(10), 0);
    }

    private static void comeNinetyNine() {
        KiteWords kites = new KiteWords();
        for (int number = 0; number < 98; number++) {
            kites.come('a', 1);
            due.is("number", kites.flier(0, 0), number);
            kites.go(0);
        }
        Due.write(kites, "a1,b1");
        due.is("98 and two more", kites.readRow(), Due.FULL);
        due.is("the 99th", kites.come('c', 3), 0);
        due.is("number of the 99th", kites.flier(0, 0), 98);
        due.is("the 100th", kites.come('c', 3), Due.FULL);
        Due.write(kites, "a1");
        due.is("the 100th by a row", kites.readRow(), Due.FULL);
        kites.undo();
        due.is("98 and one by a row", kites.readRow(), 1);
        due.is("its number", kites.flier(0, 0), 98);
    }

    private static void readRow() {
        String[] texts = {"", "a", "a1,", "a1,b", "a1b", "a0", "A1", "a1,,b2", "a1 ", ",", "1a", "a1,b2,c:", "a1,`2", "a1,{2"};
        int[] faults = {0, 1, 3, 4, 2, 1, 0, 3, 2, 0, 0, 7, 3, 3};
        for (int i = 0; i < texts.length; i++) {
            KiteWords kites = new KiteWords();
            Due.write(kites, texts[i]);
            due.is("row '" + texts[i] + "'", kites.readRow(), -1000100 - faults[i]);
            due.is("nothing changed", kites.count(0) + kites.count(12), 0);
        }
        KiteWords kites = new KiteWords();
        kites.come('q', 2);
        Due.write(kites, "a1,z9,m5");
        due.is("row a1,z9,m5", kites.readRow(), 4);
        due.is("the row", Due.row(kites).equals("qazm") ? 1 : 0, 1);
        due.is("length of z", kites.flier(2, 2), 9);
        due.is("number of m", kites.flier(3, 0), 3);
        due.is("the text stays", kites.count(13), 8);
        due.is("again", kites.readRow(), 7);
        due.is("one act each", kites.count(12), 3);
        kites.undo();
        due.is("undone as one", kites.count(0), 4);
    }

    private static void readRowIsAllOrNone() {
        String twelve = "a1,b1,c1,d1,e1,f1,g1,h1,i1,j1,k1,l1";
        due.is("twelve", Due.withRow(twelve).count(0), 12);
        KiteWords kites = new KiteWords();
        Due.write(kites, twelve + ",m1");
        due.is("thirteen", kites.readRow(), Due.FULL);
        due.is("none of them", kites.count(0), 0);
        Due.write(kites, twelve + ",m");
        due.is("a fault ahead of FULL", kites.readRow(), -1000100 - 37);
        Due.write(kites, "a1,b1,c1,d1,e1,f1,g1,h1,i1,j1,k1,l1,m1,n1,o1,p1,q1,r1,s1,t1,");
        due.is("sixty characters", kites.readRow(), -1000160);
        kites.come('a', 1);
        Due.write(kites, twelve);
        due.is("one and twelve", kites.readRow(), Due.FULL);
        due.is("still one", kites.count(0), 1);
        Due.write(kites, "b1,c1,d1,e1,f1,g1,h1,i1,j1,k1,l1");
        due.is("one and eleven", kites.readRow(), 12);
    }

    private static void go() {
        KiteWords kites = Due.withRow("a1,b2,c3,d4");
        kites.trade(1);
        due.is("go(-1)", kites.go(-1), Due.UNKNOWN);
        due.is("go(4)", kites.go(4), Due.UNKNOWN);
        due.is("go(greatest)", kites.go(Integer.MAX_VALUE), Due.UNKNOWN);
        int states = kites.count(12);
        due.is("go(1)", kites.go(1), 3);
        due.is("an act", kites.count(12), states + 1);
        due.is("the row", Due.row(kites).equals("abd") ? 1 : 0, 1);
        due.is("number of b", kites.flier(1, 0), 1);
        due.is("length of d", kites.flier(2, 2), 4);
        due.is("trades of b", kites.flier(1, 7), 1);
        due.is("trades of d", kites.flier(2, 7), 0);
        due.is("shown", kites.flier(2, 3), 20);
        due.is("place 3", kites.flier(3, 0), Due.UNKNOWN);
        due.is("all trades", kites.count(9), 1);
        kites.trade(1);
        due.is("go(2), the last, who has traded", kites.go(2), 2);
        kites.come('e', 1);
        due.is("number of e", kites.flier(2, 0), 4);
        due.is("trades of e", kites.flier(2, 7), 0);
    }

    private static void goMovesTangledPair() {
        KiteWords kites = Due.withRow("a1,b9,c1,d1");
        due.is("b over c", kites.wind(1, 5), 1);
        // a at 5, b at 55, c at 25, d at 35
        due.is("b is tangled", kites.go(1), Due.NOT_POSSIBLE);
        due.is("c is tangled", kites.go(2), Due.NOT_POSSIBLE);
        due.is("a goes", kites.go(0), 3);
        due.is("b with", kites.flier(0, 4), 1);
        due.is("c with", kites.flier(1, 4), 0);
        due.is("d with", kites.flier(2, 4), Due.NONE);
        due.is("minutes of b", kites.flier(0, 5), 3);
        due.is("minutes of c", kites.flier(1, 5), 3);
        due.is("minutes of d", kites.flier(2, 5), 0);
        due.is("d goes", kites.go(2), 2);
        due.is("still one tangle", kites.count(10), 1);

        KiteWords loose = new KiteWords();
        loose.wind(3, 5);
        // from the east: at -5, 10 - 25, 20 - 45
        Due.write(loose, "a1,b5,c9");
        loose.readRow();
        due.is("a goes, nobody is tangled", loose.go(0), 2);
        due.is("no tangle", loose.count(10), 0);
        due.is("b now", loose.flier(0, 3), -25);
    }

    private static void pay() {
        KiteWords kites = Due.withRow("a1,b9");
        due.is("pay(2, 1)", kites.pay(2, 1), Due.UNKNOWN);
        due.is("pay(-1, 0)", kites.pay(-1, 0), Due.UNKNOWN);
        due.is("pay(0, 0)", kites.pay(0, 0), Due.BAD_VALUE);
        due.is("pay(0, 10)", kites.pay(0, 10), Due.BAD_VALUE);
        due.is("pay(0, 1)", kites.pay(0, 1), Due.NONE);
        due.is("no act yet", kites.count(12), 1);
        due.is("pay(0, 9)", kites.pay(0, 9), 1);
        due.is("pay(1, 1)", kites.pay(1, 1), 9);
        due.is("pay(1, 2)", kites.pay(1, 2), 1);
        due.is("length of 1", kites.flier(1, 2), 2);
        due.is("acts", kites.count(12), 4);
        kites.wind(1, 5);
        due.is("tangled now", kites.count(10), 1);
        due.is("who is tangled pays too", kites.pay(0, 1), 9);
        due.is("no other tangle", kites.count(10), 1);
        kites.pass(3);
        due.is("crossing by length tangles nobody", kites.pay(0, 9), 1);
        due.is("none still", kites.count(10), 1);
    }

    private static void tradeWithoutWind() {
        KiteWords kites = Due.withRow("a1,b9,c4");
        due.is("trade(0)", kites.trade(0), 0);
        due.is("the row", Due.row(kites).equals("bac") ? 1 : 0, 1);
        due.is("lengths go along", kites.flier(0, 2), 9);
        due.is("numbers go along", kites.flier(0, 0), 1);
        due.is("a minute", kites.count(1), 1);
        due.is("trade(1)", kites.trade(1), 0);
        due.is("the row", Due.row(kites).equals("bca") ? 1 : 0, 1);
        due.is("trades of b", kites.flier(0, 7), 1);
        due.is("trades of c", kites.flier(1, 7), 1);
        due.is("trades of a", kites.flier(2, 7), 2);
        due.is("all trades", kites.count(9), 2);
        due.is("acts", kites.count(12), 3);
    }

    /** The western kite d west of the other: shown apart by 10 + strength * (eastern - western length). */
    private static void tradeTanglesByGap() {
        int[][] cases = {
            {5, 1, 1, 0}, {5, 1, 2, 0}, {5, 1, 3, 1}, {5, 1, 9, 1}, {5, 2, 1, 0}, {5, 3, 1, 1}, {5, 4, 1, 1},
            {3, 1, 4, 0}, {3, 1, 5, 1}, {3, 4, 1, 0}, {3, 5, 1, 1}, {2, 1, 6, 1}, {2, 1, 5, 0}, {2, 6, 1, 1},
            {2, 5, 1, 0}, {2, 7, 1, 1}, {1, 1, 9, 0}, {1, 9, 1, 0}, {0, 1, 9, 0},
        };
        for (int[] c : cases) {
            KiteWords kites = new KiteWords();
            kites.wind(1, c[0]);
            kites.come('a', c[1]);
            kites.come('b', c[2]);
            String told = "from the west " + c[0] + ", " + c[1] + " and " + c[2];
            due.is("safe " + told, kites.ifTraded(0, 1), 1 - c[3]);
            due.is("trade " + told, kites.trade(0), c[3]);
            due.is("tangles " + told, kites.count(10), c[3]);
            due.is("mate " + told, kites.flier(0, 4), c[3] == 1 ? 1 : Due.NONE);
        }
    }

    private static void tradeSeenFromTheEast() {
        int[][] cases = {{5, 3, 1, 1}, {5, 1, 3, 1}, {5, 2, 1, 0}, {4, 1, 3, 0}, {4, 3, 1, 0}, {4, 1, 4, 1}, {4, 4, 1, 1}};
        for (int[] c : cases) {
            KiteWords kites = new KiteWords();
            kites.wind(3, c[0]);
            kites.come('a', c[1]);
            kites.come('b', c[2]);
            due.is("from the east " + c[0] + ", " + c[1] + " and " + c[2], kites.trade(0), c[3]);
        }
        for (int side = 0; side <= 2; side += 2) {
            KiteWords kites = new KiteWords();
            kites.wind(side, 5);
            kites.come('a', 9);
            kites.come('b', 1);
            due.is("side " + side + " moves no kite", kites.flier(0, 3), 0);
            due.is("side " + side, kites.trade(0), 0);
        }
    }

    private static void tradeAndItsMinute() {
        KiteWords kites = new KiteWords();
        kites.wind(1, 5);
        kites.come('a', 1);
        kites.come('b', 9);
        kites.pass(7);
        due.is("trade", kites.trade(0), 1);
        due.is("one minute less already", kites.flier(0, 5), 2);
        due.is("of the other too", kites.flier(1, 5), 2);
        due.is("ahead of its minute", kites.tangle(0, 0), 7);
        due.is("west behind the trade", kites.tangle(0, 1), 1);
        due.is("east behind the trade", kites.tangle(0, 2), 0);
        due.is("by a trade", kites.tangle(0, 3), 1);

        KiteWords brief = new KiteWords();
        brief.setTangle(1);
        brief.wind(1, 5);
        brief.come('a', 1);
        brief.come('b', 9);
        due.is("a tangle of its minute", brief.trade(0), 1);
        due.is("over already", brief.flier(0, 4), Due.NONE);
        due.is("but counted", brief.count(10), 1);
        due.is("minutes", brief.flier(0, 5), 0);

        KiteWords turned = new KiteWords();
        turned.setTangle(1);
        turned.wind(1, 5);
        turned.planTurn(1, 0, 5);
        turned.come('a', 1);
        turned.come('b', 9);
        due.is("tangled by the trade", turned.trade(0), 1);
        due.is("and by the turn behind it", turned.count(10), 2);
        due.is("at", turned.tangle(0, 0), 1);
        due.is("by the wind", turned.tangle(0, 3), 0);
        due.is("for", turned.flier(0, 5), 1);

        KiteWords safe = new KiteWords();
        safe.planTurn(1, 1, 5);
        safe.come('a', 1);
        safe.come('b', 9);
        due.is("the wind behind the trade is not the trade", safe.trade(0), 0);
        due.is("but tangles", safe.count(10), 1);
        due.is("with all its minutes", safe.flier(1, 5), 3);
    }

    private static void tradeRefused() {
        KiteWords kites = Due.withRow("a1,b9,c1,d1");
        kites.wind(1, 5);
        due.is("trade(-1)", kites.trade(-1), Due.UNKNOWN);
        due.is("trade(3)", kites.trade(3), Due.UNKNOWN);
        due.is("trade(4)", kites.trade(4), Due.UNKNOWN);
        due.is("trade(least)", kites.trade(Integer.MIN_VALUE), Due.UNKNOWN);
        due.is("trade(greatest)", kites.trade(Integer.MAX_VALUE), Due.UNKNOWN);
        due.is("the eastern is tangled", kites.trade(0), Due.NOT_POSSIBLE);
        due.is("both are", kites.trade(1), Due.NOT_POSSIBLE);
        due.is("the western is", kites.trade(2), Due.NOT_POSSIBLE);
        due.is("nothing changed", kites.count(1) + kites.count(9), 0);
        Due.passTo(kites, 9998);
        due.is("the last trade", kites.trade(2), 0);
        due.is("it is late", kites.count(1), 9999);
        due.is("too late", kites.trade(2), Due.NOT_POSSIBLE);
        due.is("too late, no place", kites.trade(3), Due.UNKNOWN);
    }

    private static void flier() {
        KiteWords kites = Due.withRow("a1,b9,c4");
        due.is("flier(-1, 0)", kites.flier(-1, 0), Due.UNKNOWN);
        due.is("flier(3, 9)", kites.flier(3, 9), Due.UNKNOWN);
        due.is("flier(0, 8)", kites.flier(0, 8), Due.BAD_VALUE);
        due.is("flier(0, -1)", kites.flier(0, -1), Due.BAD_VALUE);
        kites.wind(1, 2);
        int[][] told = {
            {0, 'a', 1, 2, Due.NONE, 0, 1, 0}, {1, 'b', 9, 28, 2, 3, 0, 0}, {2, 'c', 4, 28, 1, 3, 0, 0},
        };
        for (int place = 0; place < told.length; place++) {
            for (int what = 0; what < 8; what++) {
                due.is("flier(" + place + ", " + what + ")", kites.flier(place, what), told[place][what]);
            }
        }
        kites.pass(1);
        due.is("a minute less", kites.flier(1, 5), 2);
        kites.pass(1);
        due.is("tangled still", kites.flier(2, 4), 1);
        kites.pass(1);
        due.is("free", kites.flier(1, 4), Due.NONE);
        due.is("free, but hidden", kites.flier(1, 6), 0);
        kites.wind(3, 2);
        due.is("from the east", kites.flier(2, 3), 12);
    }
}

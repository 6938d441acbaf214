/** Promises 14 to 18 and 26: texts, undo, the snapshot, and what is counted. */
public final class HistoryTest {
    private static final Due due = new Due("HistoryTest");

    public static void main(String[] args) {
        type();
        clearText();
        undo();
        undoOfEachAct();
        undoOfTangles();
        keepAndRestore();
        errorsRecordNothing();
        count();
        due.close();
    }

    private static void type() {
        KiteWords kites = new KiteWords();
        char[] characters = {(char) 0, 'a', ' ', (char) 255, (char) 65535};
        for (int i = 0; i < 60; i++) {
            due.is("type " + i, kites.type(characters[i % characters.length]), i + 1);
        }
        due.is("the 61st", kites.type('a'), Due.FULL);
        due.is("length", kites.count(13), 60);
        due.is("no act", kites.count(12), 0);
        due.is("a row of other signs", kites.readRow(), -1000100);
    }

    private static void clearText() {
        KiteWords kites = new KiteWords();
        due.is("empty", kites.clearText(), 0);
        Due.write(kites, "a1,b2");
        due.is("length", kites.clearText(), 5);
        due.is("empty then", kites.count(13), 0);
        due.is("nothing is left", kites.readRow(), -1000100);
        Due.write(kites, "x");
        due.is("nor behind it", kites.readRow(), -1000101);
        due.is("no act", kites.count(12), 0);
    }

    private static void undo() {
        KiteWords kites = new KiteWords();
        for (int i = 0; i < 6; i++) {
            kites.come((char) ('a' + i), 1);
            due.is("states", kites.count(12), Math.min(i + 1, 4));
        }
        Due.write(kites, "xy");
        due.is("undo", kites.undo(), 3);
        due.is("the text stays", kites.count(13), 2);
        due.is("undo", kites.undo(), 2);
        due.is("undo is no act", kites.count(12), 2);
        due.is("fliers", kites.count(0), 4);
        kites.come('q', 1);
        due.is("the number is used again", kites.flier(4, 0), 4);
        due.is("undo", kites.undo(), 2);
        due.is("undo", kites.undo(), 1);
        due.is("undo", kites.undo(), 0);
        due.is("undo", kites.undo(), Due.NONE);
        due.holds("the oldest ones are dropped", Due.row(kites).equals("ab"));
    }

    private static void undoOfEachAct() {
        KiteWords kites = Due.withRow("a9,b1,c1");
        kites.go(2);
        kites.undo();
        due.holds("go", Due.row(kites).equals("abc"));
        kites.pay(0, 3);
        kites.undo();
        due.is("pay", kites.flier(0, 2), 9);
        kites.trade(1);
        kites.undo();
        due.holds("trade", Due.row(kites).equals("abc"));
        due.is("trade, numbers", kites.flier(1, 0), 1);
        due.is("trade, minutes", kites.count(1), 0);
        due.is("trade, trades", kites.count(9) + kites.flier(1, 7) + kites.flier(2, 7), 0);
        kites.wind(1, 5);
        kites.undo();
        due.is("wind", kites.count(2), 0);
        due.is("wind, strength", kites.count(3), 1);
        due.is("wind, tangles", kites.count(10), 0);
        due.is("wind, log", kites.tangle(0, 0), Due.NONE);
        due.is("wind, mate", kites.flier(0, 4), Due.NONE);
        due.is("wind, minutes", kites.flier(0, 5), 0);
        kites.planTurn(3, 1, 5);
        kites.pass(3);
        kites.undo();
        due.is("pass", kites.count(1), 0);
        due.is("pass, the turn is there again", kites.turnOf(0, 0), 3);
        kites.dropTurn(3);
        kites.undo();
        due.is("dropTurn", kites.turnOf(0, 2), 5);
        kites.undo();
        due.is("planTurn", kites.count(11), 0);
        kites.crowd(true);
        kites.undo();
        due.is("crowd", kites.count(4), 0);
        kites.setTangle(9);
        kites.undo();
        due.is("setTangle", kites.setTangle(3), Due.NONE);
        Due.want(kites, "abc");
        Due.want(kites, "ab");
        kites.undo();
        due.is("want", kites.count(6), 3);
        due.is("want, its letters", kites.count(8), 1);
        kites.undo();
        due.is("want, none", kites.count(6), 0);
        due.is("readRow is left", kites.undo(), 0);
        due.is("readRow", kites.count(0), 0);
    }

    private static void undoOfTangles() {
        KiteWords kites = Due.withRow("a9,b1,c2,d9");
        kites.wind(1, 5);
        kites.pass(4);
        // a at 45, b at 15, c at 30, d at 75
        kites.setTangle(1);
        due.is("by a trade", kites.trade(2), 1);
        due.is("b with d", kites.flier(1, 4), Due.NONE);
        due.is("by the wind", kites.wind(0, 0), 2);
        int[][] told = {{5, 3, 2, 0}, {5, 0, 1, 0}, {4, 3, 2, 1}, {0, 0, 1, 0}};
        log(kites, told, 0);
        kites.undo();
        log(kites, told, 2);
        kites.undo();
        log(kites, told, 3);
    }

    private static void log(KiteWords kites, int[][] told, int first) {
        for (int back = 0; back < told.length - first; back++) {
            for (int what = 0; what < 4; what++) {
                due.is("from " + first + ", tangle(" + back + ", " + what + ")",
                        kites.tangle(back, what), told[first + back][what]);
            }
        }
        due.is("no more from " + first, kites.tangle(told.length - first, 0), Due.NONE);
    }

    private static void keepAndRestore() {
        KiteWords kites = Due.withRow("a9,b1");
        due.is("no snapshot", kites.restore(), Due.NONE);
        due.is("not recorded", kites.count(12), 1);
        kites.pass(7);
        due.is("keep", kites.keep(), 7);
        due.is("keep is no act", kites.count(12), 2);
        kites.planTurn(9, 1, 5);
        kites.pass(4);
        Due.want(kites, "ab");
        Due.write(kites, "text");
        due.is("tangles", kites.count(10), 1);
        due.is("restore", kites.restore(), 7);
        due.is("the tangle is gone", kites.count(10), 0);
        due.is("the text stays", kites.count(13), 4);
        due.is("the history stays", kites.count(12), 4);
        due.is("the word is gone", kites.count(6), 0);
        due.is("undo of restore", kites.undo(), 3);
        due.is("the tangle is there", kites.tangle(0, 0), 9);
        due.is("the word is there", kites.count(6), 2);
        due.is("the snapshot stays", kites.restore(), 7);
        kites.come('c', 1);
        due.is("the snapshot stays as it was", kites.restore(), 7);
        due.is("without c", kites.count(0), 2);
        due.is("an act though nothing changes", kites.restore(), 7);
        due.is("so it is recorded", kites.undo(), 3);
        kites.go(0);
        due.is("another snapshot", kites.keep(), 7);
        kites.go(0);
        kites.restore();
        due.holds("in place of the one that was", Due.row(kites).equals("b"));
        kites.undo();
        kites.undo();
        kites.undo();
        due.is("undo does not touch the snapshot", kites.restore(), 7);
        due.holds("it is the later one", Due.row(kites).equals("b"));
    }

    private static void errorsRecordNothing() {
        KiteWords kites = Due.withRow("a9,b1");
        kites.wind(1, 5);
        Due.write(kites, "?");
        int states = kites.count(12);
        kites.come('A', 1);
        kites.readRow();
        kites.go(0);
        kites.go(2);
        kites.pay(0, 9);
        kites.pay(2, 9);
        kites.pay(0, 10);
        kites.trade(0);
        kites.trade(1);
        kites.pass(0);
        kites.wind(1, 5);
        kites.wind(1, 6);
        kites.planTurn(0, 0, 0);
        kites.dropTurn(4);
        kites.crowd(false);
        kites.setTangle(3);
        kites.setTangle(0);
        kites.want();
        kites.restore();
        due.is("history", kites.count(12), states);
        due.is("minutes", kites.count(1), 0);
        kites.undo();
        due.is("the state that was before the wind", kites.count(2), 0);
    }

    private static void count() {
        KiteWords kites = Due.withRow("a9,b1,c1");
        Due.want(kites, "cab");
        kites.planTurn(50, 2, 2);
        kites.crowd(true);
        kites.trade(1);
        kites.wind(1, 4);
        Due.write(kites, "abcde");
        // a at 36 is tangled with c at 14; b at 24
        int[] counts = {3, 1, 1, 4, 1, 1, 3, 2, 0, 1, 1, 1, 4, 5};
        for (int what = 0; what < counts.length; what++) {
            due.is("count(" + what + ")", kites.count(what), counts[what]);
        }
        due.is("count(-1)", kites.count(-1), Due.BAD_VALUE);
        due.is("count(14)", kites.count(14), Due.BAD_VALUE);
        due.is("count(least)", kites.count(Integer.MIN_VALUE), Due.BAD_VALUE);
    }
}

import java.util.function.ToIntFunction;

/**
 * The limits that the document names under HISTORY and in promises 16 to 18 and 26: the history and the snapshot empty
 * and full, which calls record a state and what it holds. A quoted line is the sentence that is tested.
 */
public final class HistoryBoundsTest {
    private static final Due due = new Due("HistoryBoundsTest");

    public static void main(String[] args) {
        emptyHistory();
        fullHistory();
        undoThenAct();
        eachActRecords();
        otherCallsRecordNothing();
        undoIsNoAct();
        noSnapshot();
        snapshotOfAnEmptyRow();
        snapshotIsReplaced();
        snapshotStays();
        restoreIsAnAct();
        restoreOfTheSameState();
        stateIsEverything();
        keepAtTheEndOfTime();
        countWhat();
        due.close();
    }

    // "NONE if the history is empty"
    private static void emptyHistory() {
        KiteWords kites = new KiteWords();
        due.is("states", kites.count(12), 0);
        due.is("undo()", kites.undo(), Due.NONE);
        Due.write(kites, "a1");
        kites.clearText();
        kites.keep();
        due.is("no act yet", kites.undo(), Due.NONE);
        kites.come('a', 1);
        due.is("one state", kites.count(12), 1);
        due.is("it is removed", kites.undo(), 0);
        due.is("nobody has come", kites.count(0), 0);
        due.is("empty again", kites.undo(), Due.NONE);
        due.is("still nobody", kites.count(0), 0);
    }

    // "A history of at most 4 states is kept; when one more is recorded, the oldest one is dropped"
    private static void fullHistory() {
        for (int acts = 0; acts <= 12; acts++) {
            KiteWords kites = new KiteWords();
            for (int act = 1; act <= acts; act++) {
                kites.pass(act);
                due.is("states behind " + act, kites.count(12), Math.min(act, 4));
            }
            int minutes = kites.count(1);
            for (int left = Math.min(acts, 4) - 1, act = acts; left >= 0; left--, act--) {
                minutes -= act;
                due.is("undo of " + act + " of " + acts, kites.undo(), left);
                due.is("its minutes", kites.count(1), minutes);
            }
            due.is("no more of " + acts, kites.undo(), Due.NONE);
            due.is("the minutes stay", kites.count(1), minutes);
        }
    }

    // "undo() removes and restores the latest one"
    private static void undoThenAct() {
        KiteWords kites = new KiteWords();
        for (int act = 0; act < 6; act++) {
            kites.come((char) ('a' + act), 1);
        }
        due.is("undo", kites.undo(), 3);
        due.is("undo", kites.undo(), 2);
        kites.come('x', 1);
        kites.come('y', 1);
        due.is("full again", kites.count(12), 4);
        due.holds("the row", Due.row(kites).equals("abcdxy"));
        due.is("undo y", kites.undo(), 3);
        due.is("undo x", kites.undo(), 2);
        due.is("undo d", kites.undo(), 1);
        due.is("undo c", kites.undo(), 0);
        due.is("no more", kites.undo(), Due.NONE);
        due.holds("the oldest that was kept", Due.row(kites).equals("ab"));
    }

    /** A row with a tangle, a plan, a word and a snapshot, so many states in its history, and a text. */
    private static KiteWords scene(int states, String text) {
        KiteWords kites = Due.withRow("b9,a1,d1,c1,e5");
        kites.keep();
        Due.want(kites, "abcde");
        kites.planTurn(5, 1, 3);
        kites.wind(1, 5);
        kites.trade(2);
        for (int minutes = 4; minutes < 8; minutes++) {
            kites.setTangle(minutes);
        }
        for (int undone = 4; undone > states; undone--) {
            kites.undo();
        }
        Due.write(kites, text);
        return kites;
    }

    // "Each call of a method that is described as an act ... records the state that was before it."
    private static void eachActRecords() {
        for (int states = 0; states <= 4; states++) {
            records("come", states, "", 5, kites -> kites.come('f', 1));
            records("readRow", states, "f1,g2", 7, KiteWords::readRow);
            records("go", states, "", 4, kites -> kites.go(4));
            records("pay", states, "", 5, kites -> kites.pay(4, 6));
            records("trade", states, "", 1, kites -> kites.trade(3));
            records("pass", states, "", 0, kites -> kites.pass(1));
            records("wind", states, "", 0, kites -> kites.wind(0, 0));
            records("planTurn", states, "", 2, kites -> kites.planTurn(4, 0, 0));
            records("dropTurn", states, "", 0, kites -> kites.dropTurn(5));
            records("crowd", states, "", 3, kites -> kites.crowd(true));
            records("setTangle", states, "", states + 3, kites -> kites.setTangle(9));
            records("want", states, "edcba", 5, KiteWords::want);
            records("restore", states, "", 0, KiteWords::restore);
        }
    }

    private static void records(String name, int states, String text, int answer, ToIntFunction<KiteWords> act) {
        String told = name + " with " + states + " states";
        String before = Picture.of(scene(states, text));
        KiteWords kites = scene(states, text);
        due.is(told, act.applyAsInt(kites), answer);
        due.is(told + ": recorded", kites.count(12), Math.min(states + 1, 4));
        due.is(told + ": undo", kites.undo(), Math.min(states + 1, 4) - 1);
        due.holds(told + ": the state that was before it", Picture.of(kites).equals(before));
        KiteWords older = scene(states, text);
        act.applyAsInt(older);
        older.undo();
        KiteWords other = scene(states, text);
        for (int left = Math.min(states, 3); left > 0; left--) {
            due.is(told + ": undo", older.undo(), left - 1);
            other.undo();
        }
        due.holds(told + ": the older states are as they were", Picture.of(older).equals(Picture.of(other)));
    }

    // Calls that the document does not describe as acts.
    private static void otherCallsRecordNothing() {
        for (int states = 0; states <= 4; states++) {
            KiteWords kites = scene(states, "ab");
            kites.type('c');
            kites.clearText();
            kites.keep();
            kites.flier(0, 0);
            kites.reads(0);
            kites.ifTraded(0, 0);
            kites.nextTrade();
            kites.spelledIn();
            kites.turnOf(0, 0);
            kites.tangle(0, 0);
            kites.count(0);
            due.is("states", kites.count(12), states);
        }
    }

    private static void undoIsNoAct() {
        KiteWords kites = new KiteWords();
        kites.pass(1);
        kites.pass(2);
        due.is("undo", kites.undo(), 1);
        due.is("states", kites.count(12), 1);
        due.is("undo again goes on", kites.undo(), 0);
        due.is("minutes", kites.count(1), 0);
    }

    // "There is one snapshot, empty at first."; "NONE if there is no snapshot"
    private static void noSnapshot() {
        KiteWords kites = new KiteWords();
        due.is("restore()", kites.restore(), Due.NONE);
        kites.pass(3);
        due.is("restore() behind an act", kites.restore(), Due.NONE);
        due.is("minutes", kites.count(1), 3);
        due.is("states", kites.count(12), 1);
        due.is("keep()", kites.keep(), 3);
        due.is("restore() behind keep()", kites.restore(), 3);
    }

    private static void snapshotOfAnEmptyRow() {
        KiteWords kites = new KiteWords();
        due.is("keep()", kites.keep(), 0);
        Due.write(kites, "a9,b1");
        kites.readRow();
        kites.wind(1, 5);
        kites.pass(7);
        due.is("restore()", kites.restore(), 0);
        due.is("fliers", kites.count(0), 0);
        due.is("wind", kites.count(2), 0);
        due.is("tangles", kites.count(10), 0);
        kites.come('c', 1);
        due.is("numbers begin anew", kites.flier(0, 0), 0);
    }

    // "Takes a snapshot of the state, in place of the one that was."
    private static void snapshotIsReplaced() {
        KiteWords kites = new KiteWords();
        kites.keep();
        kites.pass(1);
        due.is("keep() at 1", kites.keep(), 1);
        kites.pass(1);
        due.is("keep() at 2", kites.keep(), 2);
        kites.pass(1);
        due.is("restore()", kites.restore(), 2);
        due.is("restore() again", kites.restore(), 2);
    }

    // "Restores the state of the snapshot, which stays."
    private static void snapshotStays() {
        KiteWords kites = scene(4, "");
        kites.keep();
        String kept = Picture.of(scene(4, ""));
        for (int times = 0; times < 3; times++) {
            kites.go(4);
            kites.pay(0, 3);
            kites.trade(1);
            kites.crowd(times % 2 == 0);
            kites.wind(2, times);
            kites.pass(9);
            kites.dropTurn(5);
            kites.come('z', 9);
            kites.restore();
            if (times == 1) {
                kites.undo();
                kites.restore();
            }
        }
        due.holds("it is as it was kept", Picture.of(kites).equals(kept));
    }

    // restore: "This is an act."
    private static void restoreIsAnAct() {
        for (int states = 0; states <= 4; states++) {
            KiteWords kites = scene(states, "");
            due.is("restore()", kites.restore(), 0);
            due.is("states", kites.count(12), Math.min(states + 1, 4));
            due.is("no word", kites.count(6), 0);
            due.is("undo()", kites.undo(), Math.min(states + 1, 4) - 1);
            due.is("the word is back", kites.count(6), 5);
            due.is("the snapshot stays behind undo()", kites.restore(), 0);
        }
    }

    private static void restoreOfTheSameState() {
        KiteWords kites = new KiteWords();
        kites.keep();
        for (int states = 1; states <= 5; states++) {
            due.is("restore()", kites.restore(), 0);
            due.is("recorded, though nothing changes", kites.count(12), Math.min(states, 4));
        }
    }

    // "A state is everything but the text, the history and the snapshot."
    private static void stateIsEverything() {
        KiteWords kites = scene(4, "text");
        String kept = Picture.of(kites);
        KiteWords other = scene(4, "text");
        other.keep();
        other.undo();
        other.crowd(true);
        other.pass(40);
        other.trade(2);
        other.trade(1);
        other.wind(3, 5);
        Due.write(other, "v1,w2,x3");
        other.readRow();
        other.go(5);
        Due.want(other, "z");
        other.planTurn(99, 2, 2);
        other.setTangle(1);
        Due.write(other, "text");
        due.holds("another state", !Picture.of(other).equals(kept));
        other.restore();
        due.holds("restored", Picture.of(other).equals(kept));
        due.is("how long a tangle stays, too", other.setTangle(7), Due.NONE);
        other.come('q', 1);
        due.is("and how many have been", other.flier(5, 0), 5);
    }

    // "Returns the count of minutes."
    private static void keepAtTheEndOfTime() {
        KiteWords kites = new KiteWords();
        Due.passTo(kites, 9999);
        due.is("keep()", kites.keep(), 9999);
        due.is("undo()", kites.undo(), 3);
        due.is("minutes", kites.count(1), 9960);
        due.is("restore()", kites.restore(), 9999);
        due.is("pass(1)", kites.pass(1), Due.FULL);
        due.is("undo() of restore()", kites.undo(), 3);
        due.is("pass(1)", kites.pass(1), 0);
    }

    // count: what from 0 to 13
    private static void countWhat() {
        KiteWords kites = scene(4, "");
        for (int what = -20; what <= 30; what++) {
            boolean isKnown = what >= 0 && what <= 13;
            due.is("count(" + what + ") is bad", kites.count(what) == Due.BAD_VALUE ? 1 : 0, isKnown ? 0 : 1);
        }
        for (int what : new int[] {Integer.MIN_VALUE, Integer.MAX_VALUE, 256, 65536, 1 << 31}) {
            due.is("count(" + what + ")", kites.count(what), Due.BAD_VALUE);
        }
        KiteWords empty = new KiteWords();
        int[] counts = {0, 0, 0, 1, 0, 0, 0, Due.NONE, 0, 0, 0, 0, 0, 0};
        for (int what = 0; what < 14; what++) {
            due.is("new: count(" + what + ")", empty.count(what), counts[what]);
        }
        countsAtTheirGreatest();
    }

    private static void countsAtTheirGreatest() {
        KiteWords kites = Due.withRow(Due.fliers(12));
        for (int turn = 1; turn <= 8; turn++) {
            kites.planTurn(turn + 100, 1, 1);
        }
        Due.want(kites, "lkjihgfedcba");
        kites.crowd(true);
        kites.wind(3, 5);
        Due.write(kites, "twelve, and some more signs than the row has: sixty of them.");
        int[] counts = {12, 0, 3, 5, 1, 12, 12, 0, 1, 0, 0, 8, 4, 60};
        for (int what = 0; what < 14; what++) {
            due.is("full: count(" + what + ")", kites.count(what), counts[what]);
        }
    }
}

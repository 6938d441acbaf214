/** Promises 7 to 12, 24 and 25: time, wind, the plan, the crowd, how long a tangle stays, the log. */
public final class WindTest {
    private static final Due due = new Due("WindTest");

    public static void main(String[] args) {
        pass();
        passWithTurns();
        wind();
        windTanglesByOrder();
        windTanglesFromTheWest();
        planTurn();
        planIsFull();
        dropTurn();
        crowd();
        setTangle();
        tangleLog();
        due.close();
    }

    private static void pass() {
        KiteWords kites = new KiteWords();
        due.is("pass(0)", kites.pass(0), Due.BAD_VALUE);
        due.is("pass(61)", kites.pass(61), Due.BAD_VALUE);
        due.is("pass(-1)", kites.pass(-1), Due.BAD_VALUE);
        due.is("pass(greatest)", kites.pass(Integer.MAX_VALUE), Due.BAD_VALUE);
        due.is("pass(1)", kites.pass(1), 0);
        due.is("pass(60)", kites.pass(60), 0);
        due.is("minutes", kites.count(1), 61);
        due.is("acts", kites.count(12), 2);
        Due.passTo(kites, 9940);
        due.is("one too far", kites.pass(60), Due.FULL);
        due.is("not moved", kites.count(1), 9940);
        due.is("to the end", kites.pass(59), 0);
        due.is("at the end", kites.count(1), 9999);
        due.is("no more", kites.pass(1), Due.FULL);
        due.is("bad ahead of full", kites.pass(61), Due.BAD_VALUE);
    }

    private static void passWithTurns() {
        KiteWords kites = Due.withRow("a9,b1");
        kites.planTurn(2, 1, 5);
        kites.planTurn(4, 0, 5);
        kites.planTurn(5, 2, 3);
        kites.planTurn(9, 1, 5);
        due.is("nothing yet", kites.pass(1), 0);
        due.is("the turn of 2", kites.pass(1), 1);
        due.is("side", kites.count(2), 1);
        due.is("strength", kites.count(3), 5);
        due.is("a turn that is done is gone", kites.count(11), 3);
        due.is("all three minutes to go", kites.flier(0, 5), 3);
        // At 4 they are tangled still; at 5 no more, and the order stays; at 9 it turns.
        due.is("to 8", kites.pass(6), 0);
        due.is("wind of 5", kites.count(2), 2);
        due.is("no turn left but one", kites.count(11), 1);
        due.is("to 9", kites.pass(60), 1);
        due.is("minute of the tangle", kites.tangle(0, 0), 9);
        due.is("two tangles", kites.count(10), 2);

        KiteWords many = Due.withRow("a9,b1");
        many.setTangle(1);
        many.planTurn(1, 1, 5);
        many.planTurn(2, 1, 0);
        many.planTurn(3, 3, 5);
        many.planTurn(4, 1, 1);
        // at 4 the western kite stays west of the other
        due.is("a minute frees ahead of its turn", many.pass(4), 2);
        due.is("then", many.flier(0, 4), Due.NONE);
    }

    private static void wind() {
        KiteWords kites = Due.withRow("a9,b1");
        due.is("wind(-1, 0)", kites.wind(-1, 0), Due.BAD_VALUE);
        due.is("wind(4, 0)", kites.wind(4, 0), Due.BAD_VALUE);
        due.is("wind(0, -1)", kites.wind(0, -1), Due.BAD_VALUE);
        due.is("wind(0, 6)", kites.wind(0, 6), Due.BAD_VALUE);
        due.is("wind(0, 1)", kites.wind(0, 1), Due.NONE);
        due.is("no act", kites.count(12), 1);
        due.is("wind(0, 5)", kites.wind(0, 5), 0);
        due.is("wind(3, 5)", kites.wind(3, 5), 0);
        due.is("shown", kites.flier(0, 3), -45);
        due.is("wind(3, 0)", kites.wind(3, 0), 0);
        due.is("acts", kites.count(12), 4);
        due.is("wind(1, 5)", kites.wind(1, 5), 1);
        due.is("no minute passes", kites.count(1), 0);
        due.is("for three", kites.flier(0, 5), 3);
        due.is("wind(1, 5) again", kites.wind(1, 5), Due.NONE);
        due.is("they are tangled already", kites.wind(1, 0), 0);
        due.is("one tangle", kites.count(10), 1);
    }

    private static void windTanglesByOrder() {
        KiteWords same = Due.withRow("a3,b1");
        due.is("west of to at the same place", same.wind(1, 5), 1);
        same.pass(3);
        due.is("same place stays", same.wind(2, 5), 1);
        same.pass(3);
        due.is("stays west of", same.wind(1, 4), 0);

        KiteWords east = Due.withRow("a9,b1");
        due.is("west of to east of", east.wind(1, 2), 1);
        east.pass(3);
        due.is("east of stays", east.wind(1, 5), 0);
        due.is("east of to west of", east.wind(1, 1), 1);

        KiteWords level = Due.withRow("a3,b1");
        level.wind(1, 5);
        level.pass(3);
        due.is("same place to east of", level.pay(0, 4), 3);
        due.is("by pay is no tangle", level.count(10), 1);
        level.pay(0, 3);
        due.is("same place to west of", level.wind(3, 5), 1);
    }

    private static void windTanglesFromTheWest() {
        KiteWords kites = Due.withRow("a9,b5,c1");
        due.is("the second pair finds b tangled", kites.wind(1, 5), 1);
        due.is("a", kites.flier(0, 4), 1);
        due.is("c", kites.flier(2, 4), Due.NONE);

        KiteWords four = Due.withRow("a9,b5,c4,d1");
        due.is("two pairs", four.wind(1, 5), 2);
        due.is("c with d", four.flier(2, 4), 3);
        due.is("the eastern pair is the latest", four.tangle(0, 1), 2);
        due.is("the western one before", four.tangle(1, 1), 0);
        due.is("nobody can be read", four.count(5), 0);

        KiteWords waits = Due.withRow("a1,b9,c1");
        waits.wind(1, 5);
        waits.pass(1);
        waits.wind(0, 5);
        due.is("a is free, b tangled", waits.count(10), 1);
        due.is("minutes go on", waits.flier(1, 5), 2);
    }

    private static void planTurn() {
        KiteWords kites = new KiteWords();
        due.is("minute 0", kites.planTurn(0, 1, 1), Due.BAD_VALUE);
        due.is("minute 10000", kites.planTurn(10000, 1, 1), Due.BAD_VALUE);
        due.is("side 4", kites.planTurn(1, 4, 1), Due.BAD_VALUE);
        due.is("side -1", kites.planTurn(1, -1, 1), Due.BAD_VALUE);
        due.is("strength 6", kites.planTurn(1, 1, 6), Due.BAD_VALUE);
        due.is("strength -1", kites.planTurn(1, 1, -1), Due.BAD_VALUE);
        kites.pass(5);
        due.is("past", kites.planTurn(4, 1, 1), Due.NOT_POSSIBLE);
        due.is("now", kites.planTurn(5, 1, 1), Due.NOT_POSSIBLE);
        due.is("past and bad", kites.planTurn(5, 1, 6), Due.BAD_VALUE);
        due.is("next", kites.planTurn(6, 3, 0), 1);
        due.is("the last", kites.planTurn(9999, 0, 5), 2);
        due.is("between", kites.planTurn(100, 2, 4), 3);
        due.is("twice", kites.planTurn(100, 1, 1), Due.NOT_POSSIBLE);
        int[][] turns = {{6, 3, 0}, {100, 2, 4}, {9999, 0, 5}};
        for (int rank = 0; rank < 3; rank++) {
            for (int what = 0; what < 3; what++) {
                due.is("turnOf(" + rank + ", " + what + ")", kites.turnOf(rank, what), turns[rank][what]);
            }
        }
        due.is("turnOf(3, 0)", kites.turnOf(3, 0), Due.NONE);
        due.is("turnOf(-1, 0)", kites.turnOf(-1, 0), Due.BAD_VALUE);
        due.is("turnOf(0, 3)", kites.turnOf(0, 3), Due.BAD_VALUE);
        due.is("turnOf(0, -1)", kites.turnOf(0, -1), Due.BAD_VALUE);
        due.is("turnOf(9, 9)", kites.turnOf(9, 9), Due.BAD_VALUE);
        due.is("turnOf(greatest, 0)", kites.turnOf(Integer.MAX_VALUE, 0), Due.NONE);
        due.is("acts", kites.count(12), 4);
    }

    private static void planIsFull() {
        KiteWords kites = new KiteWords();
        for (int turns = 1; turns <= 8; turns++) {
            due.is("turn " + turns, kites.planTurn(100 - turns, turns % 4, turns % 6), turns);
        }
        due.is("the ninth", kites.planTurn(50, 1, 1), Due.FULL);
        due.is("the ninth, twice", kites.planTurn(99, 1, 1), Due.NOT_POSSIBLE);
        due.is("the ninth, bad", kites.planTurn(0, 1, 1), Due.BAD_VALUE);
        for (int rank = 0; rank < 8; rank++) {
            due.is("minute of rank " + rank, kites.turnOf(rank, 0), 92 + rank);
            due.is("strength of rank " + rank, kites.turnOf(rank, 2), (8 - rank) % 6);
        }
        Due.passTo(kites, 92);
        due.is("one is done", kites.count(11), 7);
        due.is("room again", kites.planTurn(200, 1, 1), 8);
        due.is("the first now", kites.turnOf(0, 0), 93);
    }

    private static void dropTurn() {
        KiteWords kites = Due.withRow("a9,b1");
        kites.planTurn(10, 1, 5);
        kites.planTurn(20, 2, 4);
        kites.planTurn(30, 3, 3);
        due.is("dropTurn(11)", kites.dropTurn(11), Due.UNKNOWN);
        due.is("dropTurn(0)", kites.dropTurn(0), Due.UNKNOWN);
        due.is("dropTurn(least)", kites.dropTurn(Integer.MIN_VALUE), Due.UNKNOWN);
        int states = kites.count(12);
        due.is("dropTurn(10)", kites.dropTurn(10), 2);
        due.is("an act", kites.count(12), Math.min(4, states + 1));
        due.is("the others stay", kites.turnOf(1, 1), 3);
        due.is("the others stay", kites.turnOf(0, 2), 4);
        due.is("it does not turn", kites.pass(10), 0);
        due.is("wind", kites.count(2), 0);
        due.is("dropTurn(10) again", kites.dropTurn(10), Due.UNKNOWN);
        kites.pass(10);
        due.is("done, so gone", kites.dropTurn(20), Due.UNKNOWN);
        due.is("dropTurn(30)", kites.dropTurn(30), 0);
    }

    private static void crowd() {
        KiteWords kites = Due.withRow("a1,b2,c9,d1");
        due.is("reads from the south", Due.read(kites).equals("abcd") ? 1 : 0, 1);
        due.is("crowd(false)", kites.crowd(false), Due.NONE);
        due.is("crowd(true)", kites.crowd(true), 4);
        due.is("count(4)", kites.count(4), 1);
        due.is("reads from the north", Due.read(kites).equals("dcba") ? 1 : 0, 1);
        due.is("crowd(true) again", kites.crowd(true), Due.NONE);
        due.is("acts", kites.count(12), 2);
        kites.wind(1, 5);
        // a at 5, b at 20, c and d tangled at 65 and 35
        due.is("only two", kites.crowd(false), 2);
        due.is("count(4)", kites.count(4), 0);
    }

    private static void setTangle() {
        KiteWords kites = Due.withRow("a9,b1,c9,d1");
        due.is("setTangle(0)", kites.setTangle(0), Due.BAD_VALUE);
        due.is("setTangle(10)", kites.setTangle(10), Due.BAD_VALUE);
        due.is("setTangle(3)", kites.setTangle(3), Due.NONE);
        due.is("setTangle(9)", kites.setTangle(9), 3);
        due.is("acts", kites.count(12), 2);
        kites.wind(1, 5);
        due.is("nine", kites.flier(3, 5), 9);
        due.is("setTangle(1)", kites.setTangle(1), 9);
        due.is("only later tangles", kites.flier(3, 5), 9);
        kites.pass(8);
        due.is("the last minute", kites.flier(3, 4), 2);
        kites.pass(1);
        due.is("free", kites.flier(3, 4), Due.NONE);
        kites.wind(1, 0);
        due.is("one", kites.flier(0, 5), 1);
        kites.pass(1);
        due.is("free", kites.flier(0, 5), 0);
    }

    private static void tangleLog() {
        KiteWords kites = Due.withRow("a9,b1");
        kites.setTangle(1);
        for (int time = 0; time < 10; time++) {
            due.is("turn " + time, kites.wind(1, time % 2 == 0 ? 5 : 0), 1);
            kites.pass(1);
        }
        due.is("tangles", kites.count(10), 10);
        for (int back = 0; back < 8; back++) {
            due.is("minute of " + back, kites.tangle(back, 0), 9 - back);
            due.is("west of " + back, kites.tangle(back, 1), 0);
            due.is("east of " + back, kites.tangle(back, 2), 1);
            due.is("trade of " + back, kites.tangle(back, 3), 0);
        }
        due.is("the ninth", kites.tangle(8, 0), Due.NONE);
        due.is("far back", kites.tangle(Integer.MAX_VALUE, 3), Due.NONE);
        due.is("tangle(-1, 0)", kites.tangle(-1, 0), Due.BAD_VALUE);
        due.is("tangle(0, 4)", kites.tangle(0, 4), Due.BAD_VALUE);
        due.is("tangle(0, -1)", kites.tangle(0, -1), Due.BAD_VALUE);
        due.is("tangle(20, 4)", kites.tangle(20, 4), Due.BAD_VALUE);
        kites.go(0);
        due.is("who went is told still", kites.tangle(0, 1), 0);
    }
}

/**
 * "Where several errors can apply, the order of the @return line is the order of the checks. NONE is no error; it is
 * returned only if no error applies.": for each method every two answers that can apply at once.
 */
public final class ErrorOrderTest {
    private static final Due due = new Due("ErrorOrderTest");

    public static void main(String[] args) {
        come();
        readRow();
        pay();
        trade();
        pass();
        planTurn();
        want();
        flier();
        reads();
        ifTraded();
        turnOf();
        tangle();
        due.close();
    }

    // "BAD_VALUE; FULL if there are 12, or have been 99"
    private static void come() {
        KiteWords full = Due.withRow(Due.fliers(12));
        due.is("come, bad letter, 12", full.come('{', 1), Due.BAD_VALUE);
        due.is("come, bad length, 12", full.come('a', 0), Due.BAD_VALUE);
        due.is("come, both bad, 12", full.come('A', 10), Due.BAD_VALUE);
        due.is("come, 12", full.come('a', 1), Due.FULL);
        KiteWords spent = new KiteWords();
        Due.comeAndGo(spent, 99);
        due.is("come, bad letter, 99", spent.come('`', 1), Due.BAD_VALUE);
        due.is("come, bad length, 99", spent.come('a', 10), Due.BAD_VALUE);
        due.is("come, 99", spent.come('a', 1), Due.FULL);
    }

    // "-1000100 minus the fault of the text as a row if it has one (which is an error); FULL"
    private static void readRow() {
        KiteWords full = Due.withRow(Due.fliers(12));
        Due.write(full, "a1,b");
        due.is("readRow, a fault, 12", full.readRow(), -1000104);
        full.clearText();
        due.is("readRow, no text, 12", full.readRow(), -1000100);
        Due.write(full, "a1");
        due.is("readRow, 12", full.readRow(), Due.FULL);
        KiteWords kites = new KiteWords();
        Due.write(kites, Due.fliers(19) + ",x0");
        due.is("readRow, a fault behind too many", kites.readRow(), -1000158);
        KiteWords spent = new KiteWords();
        Due.comeAndGo(spent, 99);
        Due.write(spent, "a1;");
        due.is("readRow, a fault, 99", spent.readRow(), -1000102);
        Due.write(spent, "a1");
        due.is("readRow, 99", spent.readRow(), Due.FULL);
    }

    // "UNKNOWN; BAD_VALUE; NONE if it is so already"
    private static void pay() {
        KiteWords kites = Due.withRow("a1,b1");
        due.is("pay, no place, bad length", kites.pay(2, 0), Due.UNKNOWN);
        due.is("pay, no place in the west, bad length", kites.pay(-1, 10), Due.UNKNOWN);
        due.is("pay, no place, the length of the last", kites.pay(2, 1), Due.UNKNOWN);
        due.is("pay, bad length", kites.pay(1, 0), Due.BAD_VALUE);
        due.is("pay, so already", kites.pay(1, 1), Due.NONE);
        kites.go(1);
        due.is("pay, who went, bad length", kites.pay(1, 10), Due.UNKNOWN);
        due.is("pay, who went, its length", kites.pay(1, 1), Due.UNKNOWN);
    }

    // "UNKNOWN; NOT_POSSIBLE if either is tangled, or the count of minutes is 9999"
    private static void trade() {
        KiteWords kites = Due.withRow("a1,b9,c1");
        kites.wind(1, 5);
        due.is("trade, the last place, tangled", kites.trade(2), Due.UNKNOWN);
        due.is("trade, no place", kites.trade(3), Due.UNKNOWN);
        due.is("trade, tangled", kites.trade(1), Due.NOT_POSSIBLE);
        Due.passTo(kites, 9999);
        due.is("trade, the last place, 9999", kites.trade(2), Due.UNKNOWN);
        due.is("trade, -1, 9999", kites.trade(-1), Due.UNKNOWN);
        due.is("trade, 9999", kites.trade(1), Due.NOT_POSSIBLE);
        kites.wind(1, 0);
        due.is("trade, tangled, the last place, 9999", kites.trade(2), Due.UNKNOWN);
        due.is("trade, tangled, 9999", kites.trade(1), Due.NOT_POSSIBLE);
    }

    // "BAD_VALUE; FULL if the count of minutes would be more than 9999"
    private static void pass() {
        KiteWords kites = new KiteWords();
        Due.passTo(kites, 9999);
        due.is("pass(61), 9999", kites.pass(61), Due.BAD_VALUE);
        due.is("pass(0), 9999", kites.pass(0), Due.BAD_VALUE);
        due.is("pass(-1), 9999", kites.pass(-1), Due.BAD_VALUE);
        due.is("pass(greatest), 9999", kites.pass(Integer.MAX_VALUE), Due.BAD_VALUE);
        due.is("pass(60), 9999", kites.pass(60), Due.FULL);
        due.is("pass(1), 9999", kites.pass(1), Due.FULL);
    }

    // "BAD_VALUE; NOT_POSSIBLE if the minute is not greater than the count of minutes, or has a turn; FULL"
    private static void planTurn() {
        KiteWords kites = new KiteWords();
        kites.pass(5);
        due.is("planTurn, past, bad side", kites.planTurn(5, 4, 1), Due.BAD_VALUE);
        due.is("planTurn, past, bad strength", kites.planTurn(5, 1, 6), Due.BAD_VALUE);
        due.is("planTurn, minute 0 is past and bad", kites.planTurn(0, 1, 1), Due.BAD_VALUE);
        due.is("planTurn, minute -1 is past and bad", kites.planTurn(-1, 1, 1), Due.BAD_VALUE);
        for (int turn = 1; turn <= 8; turn++) {
            kites.planTurn(10 * turn, 1, 1);
        }
        due.is("planTurn, has a turn, bad side", kites.planTurn(10, -1, 1), Due.BAD_VALUE);
        due.is("planTurn, has a turn, bad strength", kites.planTurn(80, 1, -1), Due.BAD_VALUE);
        due.is("planTurn, 8, bad side", kites.planTurn(11, 4, 1), Due.BAD_VALUE);
        due.is("planTurn, 8, bad strength", kites.planTurn(11, 1, 6), Due.BAD_VALUE);
        due.is("planTurn, 8, bad minute", kites.planTurn(10000, 1, 1), Due.BAD_VALUE);
        due.is("planTurn, 8, past", kites.planTurn(5, 1, 1), Due.NOT_POSSIBLE);
        due.is("planTurn, 8, has a turn", kites.planTurn(80, 1, 1), Due.NOT_POSSIBLE);
        due.is("planTurn, 8", kites.planTurn(81, 1, 1), Due.FULL);
    }

    // "-1000100 minus the fault of the text as a word if it has one (which is an error); NONE if it is the word already"
    private static void want() {
        KiteWords kites = new KiteWords();
        due.is("want, no text and no word", kites.want(), -1000100);
        Due.want(kites, "abcdefghijkl");
        due.is("want, so already", kites.want(), Due.NONE);
        kites.type('m');
        due.is("want, the word and one letter more", kites.want(), -1000112);
        Due.write(kites, "abcdefghijkl,");
        due.is("want, the word and a fault", kites.want(), -1000112);
    }

    // "UNKNOWN; BAD_VALUE"
    private static void flier() {
        KiteWords kites = Due.withRow("a1");
        due.is("flier, no place, bad what", kites.flier(1, 8), Due.UNKNOWN);
        due.is("flier, -1, bad what", kites.flier(-1, -1), Due.UNKNOWN);
        due.is("flier, bad what", kites.flier(0, 8), Due.BAD_VALUE);
        due.is("flier, not tangled", kites.flier(0, 4), Due.NONE);
    }

    // "BAD_VALUE if rank is negative; NONE if there are not so many"
    private static void reads() {
        KiteWords kites = new KiteWords();
        due.is("reads, negative, none to read", kites.reads(-1), Due.BAD_VALUE);
        due.is("reads, none to read", kites.reads(0), Due.NONE);
    }

    // "UNKNOWN; BAD_VALUE; NONE for 0 and 2"
    private static void ifTraded() {
        KiteWords kites = Due.withRow("a1,b1");
        for (int times = 0; times < 2; times++) {
            due.is("ifTraded, the last place, bad what", kites.ifTraded(1, 3), Due.UNKNOWN);
            due.is("ifTraded, the last place, without fewest", kites.ifTraded(1, 0), Due.UNKNOWN);
            due.is("ifTraded, -1, bad what", kites.ifTraded(-1, -1), Due.UNKNOWN);
            due.is("ifTraded, bad what, without fewest", kites.ifTraded(0, 3), Due.BAD_VALUE);
            due.is("ifTraded, bad what below, without fewest", kites.ifTraded(0, -1), Due.BAD_VALUE);
            due.is("ifTraded, without fewest", kites.ifTraded(0, 2), Due.NONE);
            Due.want(kites, "abc");
        }
    }

    // "BAD_VALUE (rank is negative, or what); NONE if there are not so many"
    private static void turnOf() {
        KiteWords kites = new KiteWords();
        for (int turns = 0; turns < 2; turns++) {
            due.is("turnOf, bad what, not so many", kites.turnOf(1, 3), Due.BAD_VALUE);
            due.is("turnOf, bad what below, not so many", kites.turnOf(1, -1), Due.BAD_VALUE);
            due.is("turnOf, bad rank and what", kites.turnOf(-1, 3), Due.BAD_VALUE);
            due.is("turnOf, bad rank", kites.turnOf(-1, 0), Due.BAD_VALUE);
            due.is("turnOf, not so many", kites.turnOf(1, 0), Due.NONE);
            kites.planTurn(1, 1, 1);
        }
    }

    // "BAD_VALUE (back is negative, or what); NONE if there is none"
    private static void tangle() {
        KiteWords kites = Due.withRow("a9,b1");
        for (int tangles = 0; tangles < 2; tangles++) {
            due.is("tangle, bad what, none", kites.tangle(1, 4), Due.BAD_VALUE);
            due.is("tangle, bad what below, none", kites.tangle(1, -1), Due.BAD_VALUE);
            due.is("tangle, bad back and what", kites.tangle(-1, 4), Due.BAD_VALUE);
            due.is("tangle, bad back", kites.tangle(-1, 0), Due.BAD_VALUE);
            due.is("tangle, none", kites.tangle(1, 0), Due.NONE);
            kites.wind(1, 5);
        }
    }
}

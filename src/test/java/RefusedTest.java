import java.util.function.Supplier;
import java.util.function.ToIntFunction;

/**
 * "A call that returns an error or NONE changes nothing.": each such answer of each method, and all that the object
 * tells then, its history, its snapshot and its text beside those of one that was not asked.
 */
public final class RefusedTest {
    private static final Due due = new Due("RefusedTest");

    private final String scene;
    private final Supplier<KiteWords> maker;
    private final String alone;

    private RefusedTest(String scene, Supplier<KiteWords> maker) {
        this.scene = scene;
        this.maker = maker;
        alone = Picture.inDepth(maker);
    }

    public static void main(String[] args) {
        inANewObject();
        inAFullRow();
        inATangle();
        inAFullPlan();
        withATextThatIsWhole();
        withAFullText();
        withTheWord();
        atTheLastMinute();
        behindNinetyNine();
        withAnEmptyHistory();
        due.close();
    }

    private void refuses(String call, int answer, ToIntFunction<KiteWords> refused) {
        due.is(scene + ": " + call, refused.applyAsInt(maker.get()), answer);
        String behind = Picture.inDepth(() -> {
            KiteWords kites = maker.get();
            refused.applyAsInt(kites);
            return kites;
        });
        due.holds(scene + ": " + call + " changes nothing", behind.equals(alone));
    }

    private static void inANewObject() {
        RefusedTest test = new RefusedTest("new", KiteWords::new);
        test.refuses("come('A', 1)", Due.BAD_VALUE, kites -> kites.come('A', 1));
        test.refuses("come('a', 0)", Due.BAD_VALUE, kites -> kites.come('a', 0));
        test.refuses("readRow()", -1000100, KiteWords::readRow);
        test.refuses("go(0)", Due.UNKNOWN, kites -> kites.go(0));
        test.refuses("pay(0, 1)", Due.UNKNOWN, kites -> kites.pay(0, 1));
        test.refuses("trade(0)", Due.UNKNOWN, kites -> kites.trade(0));
        test.refuses("pass(0)", Due.BAD_VALUE, kites -> kites.pass(0));
        test.refuses("pass(61)", Due.BAD_VALUE, kites -> kites.pass(61));
        test.refuses("wind(4, 0)", Due.BAD_VALUE, kites -> kites.wind(4, 0));
        test.refuses("wind(1, 6)", Due.BAD_VALUE, kites -> kites.wind(1, 6));
        test.refuses("wind(0, 1)", Due.NONE, kites -> kites.wind(0, 1));
        test.refuses("planTurn(0, 1, 1)", Due.BAD_VALUE, kites -> kites.planTurn(0, 1, 1));
        test.refuses("dropTurn(1)", Due.UNKNOWN, kites -> kites.dropTurn(1));
        test.refuses("crowd(false)", Due.NONE, kites -> kites.crowd(false));
        test.refuses("setTangle(0)", Due.BAD_VALUE, kites -> kites.setTangle(0));
        test.refuses("setTangle(3)", Due.NONE, kites -> kites.setTangle(3));
        test.refuses("want()", -1000100, KiteWords::want);
        test.refuses("undo()", Due.NONE, KiteWords::undo);
        test.refuses("restore()", Due.NONE, KiteWords::restore);
        test.refusesToTell();
    }

    /** Answers of what is told that are the same without a flier, a turn or a tangle. */
    private void refusesToTell() {
        refuses("flier(-1, 0)", Due.UNKNOWN, kites -> kites.flier(-1, 0));
        refuses("flier(12, 0)", Due.UNKNOWN, kites -> kites.flier(12, 0));
        refuses("reads(-1)", Due.BAD_VALUE, kites -> kites.reads(-1));
        refuses("reads(12)", Due.NONE, kites -> kites.reads(12));
        refuses("ifTraded(-1, 0)", Due.UNKNOWN, kites -> kites.ifTraded(-1, 0));
        refuses("ifTraded(11, 0)", Due.UNKNOWN, kites -> kites.ifTraded(11, 0));
        refuses("turnOf(-1, 0)", Due.BAD_VALUE, kites -> kites.turnOf(-1, 0));
        refuses("turnOf(0, 3)", Due.BAD_VALUE, kites -> kites.turnOf(0, 3));
        refuses("turnOf(8, 0)", Due.NONE, kites -> kites.turnOf(8, 0));
        refuses("tangle(-1, 0)", Due.BAD_VALUE, kites -> kites.tangle(-1, 0));
        refuses("tangle(0, 4)", Due.BAD_VALUE, kites -> kites.tangle(0, 4));
        refuses("tangle(8, 0)", Due.NONE, kites -> kites.tangle(8, 0));
        refuses("count(-1)", Due.BAD_VALUE, kites -> kites.count(-1));
        refuses("count(14)", Due.BAD_VALUE, kites -> kites.count(14));
        refuses("no next trade", Due.NONE, KiteWords::nextTrade);
        refuses("never spelled", Due.NONE, KiteWords::spelledIn);
    }

    /** Twelve fliers, a plan, a word of other letters, a snapshot, four states in the history. */
    private static KiteWords full(String text) {
        KiteWords kites = new KiteWords();
        kites.pass(3);
        kites.keep();
        Due.write(kites, Due.fliers(11));
        kites.readRow();
        Due.want(kites, "word");
        kites.planTurn(9, 1, 4);
        kites.wind(1, 2);
        kites.trade(3);
        kites.come('l', 9);
        kites.crowd(true);
        Due.write(kites, text);
        return kites;
    }

    private static void inAFullRow() {
        RefusedTest test = new RefusedTest("full", () -> full("a1,"));
        test.refuses("come('m', 1)", Due.FULL, kites -> kites.come('m', 1));
        test.refuses("come('{', 1)", Due.BAD_VALUE, kites -> kites.come('{', 1));
        test.refuses("come('m', 10)", Due.BAD_VALUE, kites -> kites.come('m', 10));
        test.refuses("readRow()", -1000103, KiteWords::readRow);
        test.refuses("want()", -1000101, KiteWords::want);
        test.refuses("go(12)", Due.UNKNOWN, kites -> kites.go(12));
        test.refuses("pay(12, 1)", Due.UNKNOWN, kites -> kites.pay(12, 1));
        test.refuses("pay(11, 10)", Due.BAD_VALUE, kites -> kites.pay(11, 10));
        test.refuses("pay(11, 9)", Due.NONE, kites -> kites.pay(11, 9));
        test.refuses("trade(11)", Due.UNKNOWN, kites -> kites.trade(11));
        test.refuses("wind(1, 2)", Due.NONE, kites -> kites.wind(1, 2));
        test.refuses("planTurn(4, 1, 1)", Due.NOT_POSSIBLE, kites -> kites.planTurn(4, 1, 1));
        test.refuses("planTurn(9, 2, 2)", Due.NOT_POSSIBLE, kites -> kites.planTurn(9, 2, 2));
        test.refuses("planTurn(8, 4, 2)", Due.BAD_VALUE, kites -> kites.planTurn(8, 4, 2));
        test.refuses("planTurn(8, 2, 6)", Due.BAD_VALUE, kites -> kites.planTurn(8, 2, 6));
        test.refuses("dropTurn(8)", Due.UNKNOWN, kites -> kites.dropTurn(8));
        test.refuses("crowd(true)", Due.NONE, kites -> kites.crowd(true));
        test.refuses("setTangle(10)", Due.BAD_VALUE, kites -> kites.setTangle(10));
        test.refuses("setTangle(3)", Due.NONE, kites -> kites.setTangle(3));
        test.refuses("flier(0, 8)", Due.BAD_VALUE, kites -> kites.flier(0, 8));
        test.refuses("flier(0, -1)", Due.BAD_VALUE, kites -> kites.flier(0, -1));
        test.refuses("flier(0, 4)", Due.NONE, kites -> kites.flier(0, 4));
        test.refuses("ifTraded(0, 3)", Due.BAD_VALUE, kites -> kites.ifTraded(0, 3));
        test.refuses("ifTraded(0, 0)", Due.NONE, kites -> kites.ifTraded(0, 0));
        test.refuses("ifTraded(0, 2)", Due.NONE, kites -> kites.ifTraded(0, 2));
        test.refuses("turnOf(1, 0)", Due.NONE, kites -> kites.turnOf(1, 0));
        test.refuses("tangle(0, 0)", Due.NONE, kites -> kites.tangle(0, 0));
        test.refuses("count(7)", Due.NONE, kites -> kites.count(7));
        test.refusesToTell();
    }

    private static KiteWords tangled() {
        KiteWords kites = Due.withRow("a1,b9,c1,d1");
        kites.keep();
        kites.pass(2);
        kites.setTangle(5);
        kites.wind(1, 5);
        kites.pass(1);
        return kites;
    }

    private static void inATangle() {
        RefusedTest test = new RefusedTest("tangled", RefusedTest::tangled);
        for (int place = 0; place < 3; place++) {
            int tried = place;
            test.refuses("trade(" + place + ")", Due.NOT_POSSIBLE, kites -> kites.trade(tried));
        }
        test.refuses("go(1)", Due.NOT_POSSIBLE, kites -> kites.go(1));
        test.refuses("go(2)", Due.NOT_POSSIBLE, kites -> kites.go(2));
        test.refuses("pay(1, 9)", Due.NONE, kites -> kites.pay(1, 9));
        test.refuses("flier(0, 4)", Due.NONE, kites -> kites.flier(0, 4));
        test.refuses("tangle(1, 0)", Due.NONE, kites -> kites.tangle(1, 0));
        test.refuses("reads(2)", Due.NONE, kites -> kites.reads(2));
        test.refusesToTell();
    }

    private static KiteWords planned() {
        KiteWords kites = Due.withRow("a9,b1");
        kites.pass(2);
        for (int turn = 1; turn <= 8; turn++) {
            kites.planTurn(2 + 2 * turn, turn % 4, turn % 6);
        }
        return kites;
    }

    private static void inAFullPlan() {
        RefusedTest test = new RefusedTest("planned", RefusedTest::planned);
        test.refuses("planTurn(3, 1, 1)", Due.FULL, kites -> kites.planTurn(3, 1, 1));
        test.refuses("planTurn(9999, 1, 1)", Due.FULL, kites -> kites.planTurn(9999, 1, 1));
        test.refuses("planTurn(4, 2, 2)", Due.NOT_POSSIBLE, kites -> kites.planTurn(4, 2, 2));
        test.refuses("planTurn(2, 1, 1)", Due.NOT_POSSIBLE, kites -> kites.planTurn(2, 1, 1));
        test.refuses("planTurn(10000, 1, 1)", Due.BAD_VALUE, kites -> kites.planTurn(10000, 1, 1));
        test.refuses("dropTurn(3)", Due.UNKNOWN, kites -> kites.dropTurn(3));
        test.refuses("turnOf(7, 3)", Due.BAD_VALUE, kites -> kites.turnOf(7, 3));
        test.refusesToTell();
    }

    private static void withATextThatIsWhole() {
        RefusedTest row = new RefusedTest("a row", () -> full("m1"));
        row.refuses("readRow()", Due.FULL, KiteWords::readRow);
        row.refuses("want()", -1000101, KiteWords::want);
        RefusedTest twenty = new RefusedTest("a row of twenty", () -> full(Due.fliers(20)));
        twenty.refuses("readRow()", Due.FULL, KiteWords::readRow);
        RefusedTest letters = new RefusedTest("thirteen letters", () -> full("abcdefghijklm"));
        letters.refuses("want()", -1000112, KiteWords::want);
        letters.refuses("readRow()", -1000101, KiteWords::readRow);
    }

    private static void withAFullText() {
        RefusedTest test = new RefusedTest("sixty", () -> full(Due.fliers(20) + ","));
        test.refuses("type('a')", Due.FULL, kites -> kites.type('a'));
        test.refuses("type(0)", Due.FULL, kites -> kites.type((char) 0));
        test.refuses("readRow()", -1000160, KiteWords::readRow);
    }

    private static void withTheWord() {
        RefusedTest test = new RefusedTest("worded", () -> full("word"));
        test.refuses("want()", Due.NONE, KiteWords::want);
        test.refuses("readRow()", -1000101, KiteWords::readRow);
    }

    private static KiteWords late() {
        KiteWords kites = Due.withRow("b1,a1");
        Due.want(kites, "ab");
        Due.passTo(kites, 9999);
        return kites;
    }

    private static void atTheLastMinute() {
        RefusedTest test = new RefusedTest("late", RefusedTest::late);
        test.refuses("trade(0)", Due.NOT_POSSIBLE, kites -> kites.trade(0));
        test.refuses("pass(1)", Due.FULL, kites -> kites.pass(1));
        test.refuses("pass(60)", Due.FULL, kites -> kites.pass(60));
        test.refuses("planTurn(9999, 1, 1)", Due.NOT_POSSIBLE, kites -> kites.planTurn(9999, 1, 1));
        test.refuses("planTurn(10000, 1, 1)", Due.BAD_VALUE, kites -> kites.planTurn(10000, 1, 1));
    }

    private static KiteWords spent(String text) {
        KiteWords kites = new KiteWords();
        Due.comeAndGo(kites, 98);
        kites.come('y', 2);
        Due.write(kites, text);
        return kites;
    }

    private static void behindNinetyNine() {
        RefusedTest test = new RefusedTest("spent", () -> spent("a1"));
        test.refuses("come('a', 1)", Due.FULL, kites -> kites.come('a', 1));
        test.refuses("readRow()", Due.FULL, KiteWords::readRow);
    }

    private static KiteWords undone() {
        KiteWords kites = Due.withRow("a9,b1");
        for (int act = 0; act < 5; act++) {
            kites.pass(1);
        }
        for (int left = 4; left > 0; left--) {
            kites.undo();
        }
        return kites;
    }

    private static void withAnEmptyHistory() {
        RefusedTest test = new RefusedTest("undone", RefusedTest::undone);
        test.refuses("undo()", Due.NONE, KiteWords::undo);
        test.refuses("restore()", Due.NONE, KiteWords::restore);
        test.refuses("wind(0, 1)", Due.NONE, kites -> kites.wind(0, 1));
    }
}

import java.io.IOException;
import java.util.function.ToIntFunction;

/**
 * Every sentence of the promises 1 to 26, in its order: quoted, and held by the calls behind it. The limits of these
 * sentences stand in the BoundsTests, RefusedTest and ErrorOrderTest.
 */
public final class PromiseSentencesTest {
    private static final Due due = new Due("PromiseSentencesTest");
    private static Sentences document;

    public static void main(String[] args) throws IOException {
        document = new Sentences(due, section -> section.startsWith("Promise "));
        newObject();
        come();
        readRow();
        go();
        pay();
        trade();
        tradeIsRefused();
        pass();
        wind();
        planTurn();
        dropTurn();
        crowd();
        setTangle();
        want();
        type();
        clearText();
        undo();
        keep();
        restore();
        flier();
        reads();
        ifTraded();
        nextTrade();
        spelledIn();
        turnOf();
        tangle();
        count();
        document.close();
        due.close();
    }

    /** Five fliers, a snapshot of them alone, a word, a turn, three states in the history and a text. */
    private static KiteWords scene() {
        KiteWords kites = Due.withRow("d9,c1,b9,a1,e5");
        kites.keep();
        Due.want(kites, "abcde");
        kites.planTurn(9, 2, 2);
        Due.write(kites, "k");
        return kites;
    }

    private static void isAct(String name, ToIntFunction<KiteWords> call) {
        document.says(name.equals("readRow()") ? "This is one act." : "This is an act.");
        KiteWords kites = scene();
        if (name.equals("readRow()")) {
            kites.type('4');
        }
        String before = Picture.of(kites);
        int states = kites.count(12);
        due.holds(name + " is no error and not NONE", call.applyAsInt(kites) > -1000000);
        due.is(name + " is recorded once", kites.count(12), states + 1);
        due.is(name + " is undone at once", kites.undo(), states);
        due.holds(name + ": the state that was before it", Picture.of(kites).equals(before));
    }

    private static void newObject() {
        document.section("Promise 1: A new object");
        document.says("Creates an empty row.");
        KiteWords kites = new KiteWords();
        due.is("fliers", kites.count(0), 0);
        due.is("place 0", kites.flier(0, 1), Due.UNKNOWN);
        due.is("kites to read", kites.reads(0), Due.NONE);
    }

    private static void come() {
        document.section("Promise 2: come");
        document.says("A flier comes to the east end of the row.");
        KiteWords kites = Due.withRow("a1,b2");
        kites.come('c', 3);
        due.holds("the row", Due.row(kites).equals("abc"));
        due.is("its line", kites.flier(2, 2), 3);
        kites.trade(1);
        kites.go(2);
        kites.come('b', 2);
        due.is("who comes again has another number", kites.flier(2, 0), 3);
        due.is("and no trades", kites.flier(2, 7), 0);
        due.is("it is not tangled", kites.flier(2, 4), Due.NONE);
        due.is("for no minutes", kites.flier(2, 5), 0);
        isAct("come('f', 1)", one -> one.come('f', 1));
        document.says("letter: a to z");
        for (char letter = 'a'; letter <= 'z'; letter++) {
            due.is("come(" + letter + ", 1)", new KiteWords().come(letter, 1), 0);
        }
        due.is("the sign ahead of a", kites.come('`', 1), Due.BAD_VALUE);
        due.is("the sign behind z", kites.come('{', 1), Due.BAD_VALUE);
        document.says("length: 1 to 9");
        for (int length = -1; length <= 11; length++) {
            boolean isAllowed = length >= 1 && length <= 9;
            due.is("come(a, " + length + ")", new KiteWords().come('a', length), isAllowed ? 0 : Due.BAD_VALUE);
        }
        document.says("Returns its place; BAD_VALUE; FULL if there are 12, or have been 99.");
        for (int place = 3; place < 12; place++) {
            due.is("its place", kites.come('m', 9), place);
        }
        due.is("bad", kites.come('m', 10), Due.BAD_VALUE);
        due.is("there are 12", kites.come('m', 9), Due.FULL);
        KiteWords spent = new KiteWords();
        Due.comeAndGo(spent, 98);
        due.is("the 99th", spent.come('m', 9), 0);
        spent.go(0);
        due.is("have been 99", spent.come('m', 9), Due.FULL);
    }

    private static void readRow() {
        document.section("Promise 3: readRow");
        document.says("The fliers of the text, which stays, come to the east end, one after the other; all of them, or "
                + "none.");
        KiteWords kites = Due.withRow("x1");
        Due.write(kites, "a9,b8,a7");
        kites.readRow();
        due.holds("the row", Due.row(kites).equals("xaba"));
        for (int place = 1; place < 4; place++) {
            due.is("number at " + place, kites.flier(place, 0), place);
            due.is("length at " + place, kites.flier(place, 2), 10 - place);
        }
        due.is("the text stays", kites.count(13), 8);
        due.is("and is read again", kites.readRow(), 7);
        Due.write(kites, "c1,d1,e1,f1,g1,h1");
        due.is("six have no room", kites.readRow(), Due.FULL);
        due.is("so none comes", kites.count(0), 7);
        Due.write(kites, "c1,d1,e1,f1,g1,h");
        kites.readRow();
        due.is("nor with a fault", kites.count(0), 7);
        isAct("readRow()", KiteWords::readRow);
        document.says("Returns how many fliers there are then; -1000100 minus the fault of the text as a row if it has one "
                + "(which is an error); FULL if there would be more than 12, or have been more than 99.");
        due.is("a fault", kites.readRow(), -1000116);
        Due.write(kites, "c1,d1,e1,f1,g1");
        due.is("twelve", kites.readRow(), 12);
        Due.write(kites, "c1");
        due.is("thirteen", kites.readRow(), Due.FULL);
        KiteWords spent = new KiteWords();
        Due.comeAndGo(spent, 97);
        Due.write(spent, "a1,b1,c1");
        due.is("a hundred", spent.readRow(), Due.FULL);
        Due.write(spent, "a1,b1");
        due.is("ninety-nine", spent.readRow(), 2);
    }

    private static void go() {
        document.section("Promise 4: go");
        document.says("A flier goes; those east of it come one place to the west (their kites are shown elsewhere then; "
                + "nobody is tangled by that).");
        KiteWords kites = new KiteWords();
        kites.wind(1, 5);
        Due.write(kites, "a9,b2,c3,d4");
        kites.readRow();
        // a at 45, b at 20, c at 35, d at 50: without b, c comes to 25 and d to 40
        due.is("d is shown", kites.flier(3, 3), 50);
        kites.go(1);
        due.holds("the row", Due.row(kites).equals("acd"));
        int[] shown = {45, 25, 40};
        for (int place = 0; place < 3; place++) {
            due.is("shown at the place " + place, kites.flier(place, 3), shown[place]);
            due.is("not tangled at " + place, kites.flier(place, 4), Due.NONE);
        }
        due.is("no tangle", kites.count(10), 0);
        due.is("no minute", kites.count(1), 0);
        isAct("go(1)", one -> one.go(1));
        document.says("place: a place");
        due.is("go(-1)", kites.go(-1), Due.UNKNOWN);
        due.is("go(3)", kites.go(3), Due.UNKNOWN);
        document.says("Returns how many are left; UNKNOWN; NOT_POSSIBLE if it is tangled.");
        due.is("two are left", kites.go(2), 2);
        due.is("one is left", kites.go(0), 1);
        due.is("nobody is left", kites.go(0), 0);
        due.is("no such place", kites.go(0), Due.UNKNOWN);
        KiteWords tangled = Due.withRow("a9,b1,c1");
        tangled.wind(1, 5);
        due.is("a is tangled", tangled.go(0), Due.NOT_POSSIBLE);
        due.is("b is tangled", tangled.go(1), Due.NOT_POSSIBLE);
        due.is("c is not", tangled.go(2), 2);
        KiteWords moved = Due.withRow(Due.fliers(12));
        moved.pay(10, 9);
        moved.wind(1, 5);
        moved.go(0);
        due.is("a place to the west, with its mate", moved.flier(9, 4), 10);
        due.is("who is there", moved.flier(10, 4), 9);
        due.is("with their minutes", moved.flier(9, 5) + moved.flier(10, 5), 6);
    }

    private static void pay() {
        document.section("Promise 5: pay");
        document.says("A flier gives its line another length (nobody is tangled by that).");
        KiteWords kites = Due.withRow("a1,b1");
        kites.wind(1, 5);
        kites.pay(0, 9);
        due.is("its line", kites.flier(0, 2), 9);
        due.is("that of the other", kites.flier(1, 2), 1);
        due.is("its kite has crossed the other", kites.flier(0, 3) - kites.flier(1, 3), 30);
        due.is("no tangle", kites.count(10), 0);
        due.is("no mate", kites.flier(0, 4), Due.NONE);
        isAct("pay(1, 9)", one -> one.pay(1, 9));
        document.says("place: a place");
        due.is("pay(-1, 5)", kites.pay(-1, 5), Due.UNKNOWN);
        due.is("pay(2, 5)", kites.pay(2, 5), Due.UNKNOWN);
        document.says("length: 1 to 9");
        due.is("pay(0, 0)", kites.pay(0, 0), Due.BAD_VALUE);
        due.is("pay(0, 10)", kites.pay(0, 10), Due.BAD_VALUE);
        document.says("Returns the previous one; UNKNOWN; BAD_VALUE; NONE if it is so already.");
        for (int length = 8; length >= 1; length--) {
            due.is("pay(0, " + length + ")", kites.pay(0, length), length + 1);
            due.is("again", kites.pay(0, length), Due.NONE);
        }
        due.is("pay(0, 9)", kites.pay(0, 9), 1);
    }

    private static void trade() {
        document.section("Promise 6: trade");
        document.says("The fliers at a place and at the next one trade places.");
        KiteWords kites = Due.withRow("a1,b9,c4,d7");
        kites.trade(1);
        int[][] fliers = {{0, 'a', 1, 0}, {2, 'c', 4, 1}, {1, 'b', 9, 1}, {3, 'd', 7, 0}};
        for (int place = 0; place < 4; place++) {
            for (int what = 0; what < 3; what++) {
                due.is("flier(" + place + ", " + what + ")", kites.flier(place, what), fliers[place][what]);
            }
            due.is("trades at " + place, kites.flier(place, 7), fliers[place][3]);
        }
        due.is("trades", kites.count(9), 1);
        due.is("a minute", kites.count(1), 1);
        isAct("trade(3)", one -> one.trade(3));
        document.says("place: a place, not the last one");
        due.is("trade(-1)", kites.trade(-1), Due.UNKNOWN);
        due.is("trade(3)", kites.trade(3), Due.UNKNOWN);
        due.is("trade(4)", kites.trade(4), Due.UNKNOWN);
        due.is("trade(2)", kites.trade(2), 0);
        due.is("trade(0)", kites.trade(0), 0);
    }

    private static void tradeIsRefused() {
        document.says("Returns 1 if they are tangled by that, otherwise 0; UNKNOWN; NOT_POSSIBLE if either is tangled, or "
                + "the count of minutes is 9999.");
        KiteWords kites = new KiteWords();
        kites.wind(3, 5);
        Due.write(kites, "a3,b1,c1,d1");
        kites.readRow();
        due.is("no tangle", kites.trade(1), 0);
        due.is("a tangle", kites.trade(0), 1);
        due.is("the eastern one is tangled", kites.trade(1), Due.NOT_POSSIBLE);
        due.is("both are", kites.trade(0), Due.NOT_POSSIBLE);
        due.is("neither is", kites.trade(2), 0);
        due.is("no such place", kites.trade(3), Due.UNKNOWN);
        KiteWords late = Due.withRow("a1,b1");
        Due.passTo(late, 9998);
        due.is("at 9998", late.trade(0), 0);
        due.is("at 9999", late.trade(0), Due.NOT_POSSIBLE);
    }

    private static void pass() {
        document.section("Promise 7: pass");
        document.says("Lets minutes pass.");
        KiteWords kites = Due.withRow("a9,b1,c9,d1");
        kites.wind(1, 5);
        kites.planTurn(2, 2, 4);
        kites.planTurn(5, 1, 5);
        kites.pass(2);
        due.is("two minutes", kites.count(1), 2);
        due.is("one is left of three", kites.flier(0, 5), 1);
        due.is("the turn of 2", kites.count(3), 4);
        isAct("pass(60)", one -> one.pass(60));
        document.says("minutes: 1 to 60");
        due.is("pass(0)", kites.pass(0), Due.BAD_VALUE);
        due.is("pass(61)", kites.pass(61), Due.BAD_VALUE);
        document.says("Returns how many pairs are tangled in them; BAD_VALUE; FULL if the count of minutes would be more "
                + "than 9999.");
        due.is("pass(1)", kites.pass(1), 0);
        due.is("two pairs by the turn of 5", kites.pass(60), 2);
        Due.passTo(kites, 9939);
        due.is("to 9999", kites.pass(60), 0);
        due.is("minutes", kites.count(1), 9999);
        due.is("beyond", kites.pass(1), Due.FULL);
    }

    private static void wind() {
        document.section("Promise 8: wind");
        document.says("Sets the wind.");
        KiteWords kites = Due.withRow("a9,b1,c9,d1");
        kites.wind(3, 4);
        due.is("its side", kites.count(2), 3);
        due.is("its strength", kites.count(3), 4);
        due.is("where a kite is", kites.flier(0, 3), -36);
        isAct("wind(0, 5)", one -> one.wind(0, 5));
        document.says("side: 0 to 3");
        document.says("strength: 0 to 5");
        for (int side = -1; side <= 4; side++) {
            for (int strength = -1; strength <= 6; strength++) {
                boolean isAllowed = side >= 0 && side <= 3 && strength >= 0 && strength <= 5;
                int answer = side == 0 && strength == 1 ? Due.NONE : 0;
                due.is("wind(" + side + ", " + strength + ")", new KiteWords().wind(side, strength),
                        isAllowed ? answer : Due.BAD_VALUE);
            }
        }
        document.says("Returns how many pairs are tangled by that; BAD_VALUE; NONE if it is so already.");
        kites = Due.withRow("a9,b1,c9,d1");
        due.is("two pairs", kites.wind(1, 5), 2);
        due.is("so already", kites.wind(1, 5), Due.NONE);
        due.is("bad", kites.wind(1, 6), Due.BAD_VALUE);
        due.is("they are tangled already", kites.wind(3, 5), 0);
        due.is("another strength", kites.wind(3, 4), 0);
        due.is("another side", kites.wind(2, 4), 0);
    }

    private static void planTurn() {
        document.section("Promise 9: planTurn");
        document.says("Adds a turn to the plan.");
        KiteWords kites = new KiteWords();
        kites.pass(2);
        kites.planTurn(7, 3, 5);
        int[] turn = {7, 3, 5};
        for (int what = 0; what < 3; what++) {
            due.is("turnOf(0, " + what + ")", kites.turnOf(0, what), turn[what]);
        }
        due.is("it is to come", kites.count(2), 0);
        isAct("planTurn(8, 0, 0)", one -> one.planTurn(8, 0, 0));
        document.says("minute: 1 to 9999");
        due.is("minute 0", kites.planTurn(0, 0, 0), Due.BAD_VALUE);
        due.is("minute 10000", kites.planTurn(10000, 0, 0), Due.BAD_VALUE);
        document.says("side: 0 to 3");
        due.is("side -1", kites.planTurn(8, -1, 0), Due.BAD_VALUE);
        due.is("side 4", kites.planTurn(8, 4, 0), Due.BAD_VALUE);
        document.says("strength: 0 to 5");
        due.is("strength -1", kites.planTurn(8, 0, -1), Due.BAD_VALUE);
        due.is("strength 6", kites.planTurn(8, 0, 6), Due.BAD_VALUE);
        document.says("Returns how many turns there are then; BAD_VALUE; NOT_POSSIBLE if the minute is not greater than the "
                + "count of minutes, or has a turn; FULL if there are 8.");
        due.is("ahead of now", kites.planTurn(1, 0, 0), Due.NOT_POSSIBLE);
        due.is("now", kites.planTurn(2, 0, 0), Due.NOT_POSSIBLE);
        due.is("the next minute", kites.planTurn(3, 0, 0), 2);
        due.is("has a turn", kites.planTurn(7, 0, 0), Due.NOT_POSSIBLE);
        due.is("the last minute", kites.planTurn(9999, 3, 5), 3);
        for (int turns = 4; turns <= 8; turns++) {
            due.is("turns", kites.planTurn(100 + turns, 1, 1), turns);
        }
        due.is("there are 8", kites.planTurn(100, 1, 1), Due.FULL);
    }

    private static void dropTurn() {
        document.section("Promise 10: dropTurn");
        document.says("Removes the turn of a minute.");
        KiteWords kites = new KiteWords();
        for (int minute = 10; minute <= 40; minute += 10) {
            kites.planTurn(minute, 1, minute / 10);
        }
        kites.dropTurn(20);
        int[] left = {10, 30, 40};
        for (int rank = 0; rank < 3; rank++) {
            due.is("minute of " + rank, kites.turnOf(rank, 0), left[rank]);
            due.is("strength of " + rank, kites.turnOf(rank, 2), left[rank] / 10);
        }
        kites.pass(25);
        due.is("it is not done", kites.count(3), 1);
        isAct("dropTurn(9)", one -> one.dropTurn(9));
        document.says("minute: a minute");
        int[] others = {-1, 0, 1, 10, 20, 29, 31, 9999, 10000};
        for (int minute : others) {
            due.is("dropTurn(" + minute + ")", kites.dropTurn(minute), Due.UNKNOWN);
        }
        document.says("Returns how many turns are left; UNKNOWN if it has none.");
        due.is("one is left", kites.dropTurn(40), 1);
        due.is("none is left", kites.dropTurn(30), 0);
        due.is("it has none", kites.dropTurn(30), Due.UNKNOWN);
        for (int minute = 31; minute <= 38; minute++) {
            kites.planTurn(minute, 2, 2);
        }
        due.is("seven of eight", kites.dropTurn(31), 7);
        due.is("the first now", kites.turnOf(0, 0), 32);
    }

    private static void crowd() {
        document.section("Promise 11: crowd");
        document.says("Moves the crowd.");
        KiteWords kites = Due.withRow("a1,b1,c9,d1");
        kites.crowd(true);
        due.is("it stands in the north", kites.count(4), 1);
        due.holds("and reads from there", Due.read(kites).equals("dcba"));
        isAct("crowd(true)", one -> one.crowd(true));
        document.says("inNorth: whether it stands in the north then");
        kites.crowd(false);
        due.is("it stands in the south", kites.count(4), 0);
        document.says("Returns how many kites it can read; NONE if it stands there already.");
        due.is("in the south already", kites.crowd(false), Due.NONE);
        due.is("four kites", kites.crowd(true), 4);
        due.is("in the north already", kites.crowd(true), Due.NONE);
        kites.wind(1, 5);
        due.is("two kites", kites.crowd(false), 2);
    }

    private static void setTangle() {
        document.section("Promise 12: setTangle");
        document.says("Sets how many minutes those who are tangled by a later tangle stay so.");
        KiteWords kites = Due.withRow("a9,b1,c4,d9");
        kites.wind(1, 5);
        kites.setTangle(7);
        due.is("an earlier tangle", kites.flier(0, 5), 3);
        // c at 40, d at 75: behind the trade c at 50, d at 65
        due.is("a later one", kites.trade(2), 1);
        due.is("its minutes", kites.flier(2, 5), 6);
        isAct("setTangle(1)", one -> one.setTangle(1));
        document.says("minutes: 1 to 9");
        due.is("setTangle(0)", kites.setTangle(0), Due.BAD_VALUE);
        due.is("setTangle(10)", kites.setTangle(10), Due.BAD_VALUE);
        document.says("Returns the previous number; BAD_VALUE; NONE if it is so already.");
        due.is("so already", kites.setTangle(7), Due.NONE);
        due.is("seven", kites.setTangle(1), 7);
        due.is("one", kites.setTangle(9), 1);
        due.is("so already", kites.setTangle(9), Due.NONE);
        due.is("three at first", new KiteWords().setTangle(4), 3);
    }

    private static void want() {
        document.section("Promise 13: want");
        document.says("Makes the text, which stays, the word that is wanted.");
        KiteWords kites = Due.withRow("b1,a1");
        Due.want(kites, "ba");
        due.is("it is spelled", kites.count(8), 1);
        due.is("the text stays", kites.count(13), 2);
        kites.clearText();
        due.is("the word is not the text", kites.count(6), 2);
        Due.want(kites, "ab");
        due.is("another word", kites.count(8), 0);
        isAct("want()", KiteWords::want);
        document.says("Returns how many letters it has; -1000100 minus the fault of the text as a word if it has one (which "
                + "is an error); NONE if it is the word already.");
        due.is("letters", Due.want(kites, "abcdefghijkl"), 12);
        due.is("already", kites.want(), Due.NONE);
        due.is("a fault", Due.want(kites, "ab1"), -1000102);
        due.is("the empty text", Due.want(kites, ""), -1000100);
        due.is("too long", Due.want(kites, "abcdefghijklm"), -1000112);
        due.is("the word is there still", Due.want(kites, "abcdefghijkl"), Due.NONE);
        due.is("another last letter", Due.want(kites, "abcdefghijkk"), 12);
        due.is("another first letter", Due.want(kites, "bbcdefghijkk"), 12);
    }

    private static void type() {
        document.section("Promise 14: type");
        document.says("Types a character behind the text.");
        KiteWords kites = new KiteWords();
        kites.type('a');
        kites.type('4');
        kites.readRow();
        due.is("a", kites.flier(0, 1), 'a');
        due.is("4", kites.flier(0, 2), 4);
        due.is("no act", kites.count(12), 1);
        document.says("character: any character");
        for (int sign = 0; sign <= 65535; sign++) {
            if (sign % 60 == 0) {
                kites = new KiteWords();
            }
            if (kites.type((char) sign) != sign % 60 + 1) {
                due.is("type(" + sign + ")", -1, sign % 60 + 1);
            }
        }
        document.says("Returns the length of the text then; FULL if it has 60 characters.");
        KiteWords full = new KiteWords();
        for (int length = 1; length <= 60; length++) {
            due.is("its length", full.type('?'), length);
        }
        due.is("it has 60", full.type('?'), Due.FULL);
    }

    private static void clearText() {
        document.section("Promise 15: clearText");
        document.says("Empties the text.");
        KiteWords kites = new KiteWords();
        Due.write(kites, "abc");
        kites.clearText();
        due.is("its length", kites.count(13), 0);
        due.is("as a word", kites.want(), -1000100);
        due.is("typed anew", kites.type('z'), 1);
        due.is("as a word", kites.want(), 1);
        due.is("no act", kites.count(12), 1);
        document.says("Returns the length that it had.");
        due.is("one", kites.clearText(), 1);
        due.is("none", kites.clearText(), 0);
        Due.write(kites, "a1,b1");
        due.is("five", kites.clearText(), 5);
    }

    private static void undo() {
        document.section("Promise 16: undo");
        document.says("Removes and restores the latest state of the history.");
        KiteWords kites = scene();
        kites.trade(0);
        String before = Picture.of(kites);
        kites.trade(1);
        kites.undo();
        due.holds("the latest state", Picture.of(kites).equals(before));
        due.is("the text stays", kites.count(13), 1);
        document.says("Returns the number of states that are left; NONE if the history is empty.");
        for (int left = kites.count(12) - 1; left >= 0; left--) {
            due.is("left", kites.undo(), left);
            due.is("states", kites.count(12), left);
        }
        due.is("empty", kites.undo(), Due.NONE);
    }

    private static void keep() {
        document.section("Promise 17: keep");
        document.says("Takes a snapshot of the state, in place of the one that was.");
        KiteWords kites = scene();
        kites.trade(0);
        String before = Picture.of(kites);
        int states = kites.count(12);
        kites.keep();
        due.is("no act", kites.count(12), states);
        kites.trade(1);
        kites.restore();
        due.holds("the state that was kept", Picture.of(kites).equals(before));
        document.says("Returns the count of minutes.");
        KiteWords timed = new KiteWords();
        due.is("at 0", timed.keep(), 0);
        timed.pass(17);
        due.is("at 17", timed.keep(), 17);
    }

    private static void restore() {
        document.section("Promise 18: restore");
        document.says("Restores the state of the snapshot, which stays.");
        KiteWords kites = scene();
        kites.keep();
        String before = Picture.of(kites);
        for (int times = 0; times < 2; times++) {
            kites.trade(times);
            kites.crowd(true);
            kites.restore();
            due.holds("the state of the snapshot", Picture.of(kites).equals(before));
        }
        isAct("restore()", KiteWords::restore);
        document.says("Returns the count of minutes then; NONE if there is no snapshot.");
        KiteWords timed = new KiteWords();
        due.is("no snapshot", timed.restore(), Due.NONE);
        timed.pass(17);
        due.is("no snapshot still", timed.restore(), Due.NONE);
        timed.keep();
        timed.pass(3);
        due.is("the minutes then", timed.restore(), 17);
    }

    private static void flier() {
        document.section("Promise 19: flier");
        document.says("place: a place");
        KiteWords kites = Due.withRow("x1,a9,b1,c4,d1");
        due.is("flier(-1, 0)", kites.flier(-1, 0), Due.UNKNOWN);
        due.is("flier(5, 0)", kites.flier(5, 0), Due.UNKNOWN);
        document.says("what: 0 for the number of the flier, 1 for its letter, 2 for the length of its line, 3 for where its "
                + "kite is shown, 4 for the place of the flier with whom it is tangled (NONE if it is not), 5 for the "
                + "minutes that it stays so (0 if it is not), 6 for whether its kite can be read (1, otherwise 0), 7 for its "
                + "trades so far");
        kites.trade(2);
        kites.trade(3);
        kites.go(0);
        due.is("a with c", kites.wind(1, 5), 1);
        kites.pass(1);
        // a at 45, c at 30, d at 25, b at 35
        int[][] fliers = {{1, 'a', 9, 45, 1, 2, 0, 0}, {3, 'c', 4, 30, 0, 2, 0, 1}, {4, 'd', 1, 25, Due.NONE, 0, 1, 1},
            {2, 'b', 1, 35, Due.NONE, 0, 1, 2}};
        document.says("Returns the number; UNKNOWN; BAD_VALUE.");
        for (int place = 0; place < 4; place++) {
            for (int what = 0; what < 8; what++) {
                due.is("flier(" + place + ", " + what + ")", kites.flier(place, what), fliers[place][what]);
            }
            due.is("flier(" + place + ", -1)", kites.flier(place, -1), Due.BAD_VALUE);
            due.is("flier(" + place + ", 8)", kites.flier(place, 8), Due.BAD_VALUE);
        }
        due.is("flier(4, 0)", kites.flier(4, 0), Due.UNKNOWN);
        kites.pay(2, 3);
        due.is("d is shown where b is", kites.flier(2, 6), 0);
        due.is("both cannot be read", kites.flier(3, 6), 0);
    }

    private static void reads() {
        document.section("Promise 20: reads");
        document.says("Tells what the crowd reads.");
        KiteWords kites = new KiteWords();
        kites.wind(3, 5);
        Due.write(kites, "a1,b5,c2,d9");
        kites.readRow();
        // a at -5, b at -15, c at 10, d at -15: b and d hide one another
        due.holds("from the south", Due.read(kites).equals("ac"));
        kites.crowd(true);
        due.holds("from the north", Due.read(kites).equals("ca"));
        document.says("rank: a rank among the kites that can be read, from 0");
        due.is("rank 0", kites.reads(0), 'c');
        due.is("rank 1", kites.reads(1), 'a');
        document.says("Returns the letter; BAD_VALUE if rank is negative; NONE if there are not so many.");
        due.is("rank 2", kites.reads(2), Due.NONE);
        due.is("rank -1", kites.reads(-1), Due.BAD_VALUE);
    }

    private static void ifTraded() {
        document.section("Promise 21: ifTraded");
        document.says("Tells about a trade of the fliers at a place and at the next one.");
        KiteWords kites = Due.withRow("b1,a1,c9");
        Due.want(kites, "abc");
        String before = Picture.of(kites);
        kites.ifTraded(0, 2);
        due.holds("it tells only", Picture.of(kites).equals(before));
        document.says("place: a place, not the last one");
        due.is("ifTraded(-1, 1)", kites.ifTraded(-1, 1), Due.UNKNOWN);
        due.is("ifTraded(2, 1)", kites.ifTraded(2, 1), Due.UNKNOWN);
        document.says("what: 0 for whether it is good, 1 for whether it is safe (1, otherwise 0), 2 for what the fewest "
                + "trades would be behind it");
        kites.wind(1, 1);
        int[][] told = {{1, 1, 0}, {0, 1, 2}};
        for (int place = 0; place < 2; place++) {
            for (int what = 0; what < 3; what++) {
                due.is("ifTraded(" + place + ", " + what + ")", kites.ifTraded(place, what), told[place][what]);
            }
        }
        kites.wind(1, 2);
        // a at 12, c at 38: behind the trade c at 28, a at 22
        due.is("not safe", kites.ifTraded(1, 1), 0);
        KiteWords equal = Due.withRow("a1,a2,b1");
        Due.want(equal, "baa");
        due.is("equal letters are not good", equal.ifTraded(0, 0), 0);
        due.is("nothing is less behind them", equal.ifTraded(0, 2), 2);
        due.is("other letters are", equal.ifTraded(1, 2), 1);
        document.says("Returns the number; UNKNOWN; BAD_VALUE; NONE for 0 and 2 if there is no word, or the fewest trades "
                + "are NONE.");
        due.is("bad", kites.ifTraded(0, -1), Due.BAD_VALUE);
        due.is("bad", kites.ifTraded(0, 3), Due.BAD_VALUE);
        Due.want(kites, "abd");
        KiteWords without = Due.withRow("b1,a1,c9");
        for (int what = 0; what < 3; what++) {
            due.is("other letters, " + what, kites.ifTraded(0, what), what == 1 ? 1 : Due.NONE);
            due.is("no word, " + what, without.ifTraded(0, what), what == 1 ? 1 : Due.NONE);
        }
    }

    private static void nextTrade() {
        document.section("Promise 22: nextTrade");
        document.says("Tells the trade that is to be done next: the most western one that is good and safe (whatever the "
                + "count of minutes is).");
        KiteWords kites = Due.withRow("e9,d1,a1,c1,b1");
        Due.want(kites, "abcde");
        due.is("e with d", kites.nextTrade(), 0);
        kites.wind(1, 2);
        // e at 18, d at 12: tangled; a and c stand well
        due.is("c with b", kites.nextTrade(), 3);
        kites.pass(3);
        // e with d: d at 2, e at 28 behind the trade: not safe
        due.is("d with a", kites.nextTrade(), 1);
        Due.passTo(kites, 9999);
        due.is("at the last minute, too", kites.nextTrade(), 1);
        document.says("Returns the place; NONE if there is none.");
        Due.want(kites, "edacb");
        due.is("none is good", kites.nextTrade(), Due.NONE);
        Due.want(kites, "deacb");
        due.is("none that is good is safe", kites.nextTrade(), Due.NONE);
        KiteWords calm = Due.withRow("b1,a1");
        Due.want(calm, "ab");
        due.is("good and safe", calm.nextTrade(), 0);
        Due.want(calm, "xy");
        due.is("other letters", calm.nextTrade(), Due.NONE);
        due.is("no word", Due.withRow("b1,a1").nextTrade(), Due.NONE);
    }

    private static void spelledIn() {
        document.section("Promise 23: spelledIn");
        document.says("Tells in how many minutes the word is spelled, if in each minute the next trade is done, or, without "
                + "one, a minute passes.");
        KiteWords kites = Due.withRow("c9,b1,a1");
        Due.want(kites, "abc");
        due.is("three trades", kites.spelledIn(), 3);
        kites.wind(1, 2);
        // c at 18 is tangled with b at 12 until 3; a at 22
        kites.planTurn(5, 0, 0);
        // b with a cannot trade until 3: then a with b at 3, c waits for the calm at 5, then two trades
        due.is("with a tangle and a turn", kites.spelledIn(), 10);
        String before = Picture.of(kites);
        kites.spelledIn();
        due.holds("it tells only", Picture.of(kites).equals(before));
        int minutes = 10;
        for (int left = minutes; left > 0; left--) {
            due.is("then", kites.spelledIn(), left);
            int next = kites.nextTrade();
            if (next == Due.NONE) {
                kites.pass(1);
            } else {
                kites.trade(next);
            }
        }
        document.says("Returns the minutes, 0 if it is spelled, up to 200 (whatever the count of minutes is); NONE if it is "
                + "not by then, or there is no word.");
        due.is("it is spelled", kites.spelledIn(), 0);
        due.is("no word", Due.withRow("a1").spelledIn(), Due.NONE);
        KiteWords twelve = Due.withRow(Due.fliers(12));
        Due.want(twelve, "abcdefghijlk");
        due.is("one trade", twelve.spelledIn(), 1);
        twelve.wind(1, 5);
        twelve.pay(11, 9);
        due.is("not safe for ever", twelve.spelledIn(), Due.NONE);
        for (int turn = 199; turn <= 200; turn++) {
            KiteWords waits = Due.withRow("a1,b9");
            Due.want(waits, "ba");
            waits.wind(1, 5);
            due.is("never safe", waits.spelledIn(), Due.NONE);
            waits.planTurn(turn, 0, 0);
            due.is("a trade behind the turn of " + turn, waits.spelledIn(), turn == 199 ? 200 : Due.NONE);
        }
        KiteWords late = Due.withRow("b1,a1");
        Due.want(late, "ab");
        Due.passTo(late, 9999);
        due.is("beyond the last minute", late.spelledIn(), 1);
    }

    private static void turnOf() {
        document.section("Promise 24: turnOf");
        document.says("rank: a rank among the turns of the plan, by their minutes, from 0");
        document.says("what: 0 for the minute, 1 for the side, 2 for the strength");
        KiteWords kites = new KiteWords();
        kites.planTurn(30, 3, 0);
        kites.planTurn(10, 1, 5);
        kites.planTurn(20, 2, 4);
        int[][] turns = {{10, 1, 5}, {20, 2, 4}, {30, 3, 0}};
        document.says("Returns the number; BAD_VALUE (rank is negative, or what); NONE if there are not so many.");
        for (int rank = 0; rank < 3; rank++) {
            for (int what = 0; what < 3; what++) {
                due.is("turnOf(" + rank + ", " + what + ")", kites.turnOf(rank, what), turns[rank][what]);
            }
            due.is("turnOf(" + rank + ", -1)", kites.turnOf(rank, -1), Due.BAD_VALUE);
            due.is("turnOf(" + rank + ", 3)", kites.turnOf(rank, 3), Due.BAD_VALUE);
        }
        due.is("turnOf(-1, 0)", kites.turnOf(-1, 0), Due.BAD_VALUE);
        due.is("turnOf(3, 0)", kites.turnOf(3, 0), Due.NONE);
    }

    private static void tangle() {
        document.section("Promise 25: tangle");
        document.says("Looks back at the latest 8 tangles.");
        KiteWords kites = Due.withRow("x1,a9,b1");
        kites.go(0);
        kites.setTangle(1);
        for (int turn = 0; turn < 8; turn++) {
            kites.wind(1, turn % 2 == 0 ? 5 : 0);
            kites.pass(1);
        }
        due.is("the eighth", kites.tangle(7, 0), 0);
        due.is("there is no more", kites.tangle(8, 0), Due.NONE);
        kites.wind(1, 5);
        kites.pass(1);
        document.says("back: 0 for the latest one, 1 for the one before, and so on");
        document.says("what: 0 for the count of minutes at which it was (of a trade the count ahead of its minute), 1 and 2 "
                + "for the numbers of the fliers, the one that stood west (behind a trade) first, 3 for whether it was by a "
                + "trade (1, otherwise 0)");
        // a at 45 and b at 15 trade: b at 5, a at 55
        due.is("a tangle by a trade", kites.trade(0), 1);
        // b from 5 to -5, a from 55 to -35
        due.is("and one by the wind", kites.wind(3, 5), 1);
        int[][] tangles = {{10, 2, 1, 0}, {9, 2, 1, 1}, {8, 1, 2, 0}, {7, 1, 2, 0}, {6, 1, 2, 0}, {5, 1, 2, 0}, {4, 1, 2, 0},
            {3, 1, 2, 0}};
        document.says("Returns the number; BAD_VALUE (back is negative, or what); NONE if there is none.");
        for (int back = 0; back < 8; back++) {
            for (int what = 0; what < 4; what++) {
                due.is("tangle(" + back + ", " + what + ")", kites.tangle(back, what), tangles[back][what]);
            }
            due.is("tangle(" + back + ", -1)", kites.tangle(back, -1), Due.BAD_VALUE);
            due.is("tangle(" + back + ", 4)", kites.tangle(back, 4), Due.BAD_VALUE);
        }
        due.is("eleven have been", kites.count(10), 11);
        due.is("tangle(8, 0)", kites.tangle(8, 0), Due.NONE);
        due.is("tangle(-1, 0)", kites.tangle(-1, 0), Due.BAD_VALUE);
        KiteWords few = Due.withRow("a9,b1");
        due.is("none", few.tangle(0, 0), Due.NONE);
        few.wind(1, 5);
        due.is("none but one", few.tangle(1, 0), Due.NONE);
    }

    private static void count() {
        document.section("Promise 26: count");
        document.says("what: 0 for fliers, 1 for the count of minutes, 2 for the side of the wind, 3 for its strength, 4 for "
                + "whether the crowd stands in the north (1, otherwise 0), 5 for the kites that can be read, 6 for the "
                + "letters of the word (0 without one), 7 for the fewest trades to it (NONE without a word, or as told), 8 "
                + "for whether it is spelled (1, otherwise 0), 9 for trades so far, 10 for tangles so far, 11 for turns of "
                + "the plan, 12 for the states in the history, 13 for the length of the text");
        document.says("Returns the number; BAD_VALUE.");
        counts("new", new KiteWords(), 0, 0, 0, 1, 0, 0, 0, Due.NONE, 0, 0, 0, 0, 0, 0);
        KiteWords kites = Due.withRow("a9,b1,c1,d1,e1");
        Due.want(kites, "abced");
        kites.crowd(true);
        kites.planTurn(20, 1, 1);
        kites.planTurn(30, 1, 1);
        kites.pass(6);
        counts("read from the north", kites, 5, 6, 0, 1, 1, 5, 5, 9, 0, 0, 0, 2, 4, 5);
        kites.crowd(false);
        kites.trade(3);
        counts("spelled", kites, 5, 7, 0, 1, 0, 5, 5, 0, 1, 1, 0, 2, 4, 5);
        kites.wind(3, 5);
        kites.wind(1, 4);
        counts("tangled", kites, 5, 7, 1, 4, 0, 3, 5, 0, 0, 1, 1, 2, 4, 5);
        kites.go(4);
        counts("other letters", kites, 4, 7, 1, 4, 0, 2, 5, Due.NONE, 0, 1, 1, 2, 4, 5);
        due.is("count(-1)", kites.count(-1), Due.BAD_VALUE);
        due.is("count(14)", kites.count(14), Due.BAD_VALUE);
    }

    private static void counts(String scene, KiteWords kites, int... counts) {
        for (int what = 0; what < 14; what++) {
            due.is(scene + ": count(" + what + ")", kites.count(what), counts[what]);
        }
    }
}

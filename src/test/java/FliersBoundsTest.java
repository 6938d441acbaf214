/**
 * The limits that the document names under FLIERS AND KITES and TRADES and in promises 2 to 6 and 19: the last value
 * that is allowed and the first one that is not, the row empty and full. A quoted line is the sentence that is tested.
 */
public final class FliersBoundsTest {
    private static final Due due = new Due("FliersBoundsTest");
    private static final int[] NO_PLACES = {-1, -2, Integer.MIN_VALUE, Integer.MIN_VALUE + 1, Integer.MAX_VALUE,
        Integer.MAX_VALUE - 1, 1 << 16, 1 << 8, 1 << 30};

    public static void main(String[] args) {
        emptyRow();
        rowOfOne();
        rowOfTwo();
        rowOfTwelve();
        lettersOfCome();
        lengthsOfCome();
        twelveCome();
        ninetyNineCome();
        numbersAreNotUsedAgain();
        twelveByRow();
        ninetyNineByRow();
        longestRowTexts();
        goUntilEmpty();
        goWhileTangled();
        goBesideTangled();
        goTanglesNobody();
        lengthsOfPay();
        payWhileTangled();
        payTanglesNobody();
        shownFarthest();
        hiddenAtTheSamePlaceOnly();
        tradeTanglesFromTenOn();
        tradeOfKitesAtTheSamePlace();
        tradeBesideTangled();
        tradeAtTheLastMinute();
        tangledMinutesOfATrade();
        tradesSoFar();
        flierWhat();
        flierMates();
        due.close();
    }

    // "Creates an empty row."
    private static void emptyRow() {
        KiteWords kites = new KiteWords();
        for (int what = -1; what <= 8; what++) {
            due.is("empty: flier(0, " + what + ")", kites.flier(0, what), Due.UNKNOWN);
            due.is("empty: ifTraded(0, " + what + ")", kites.ifTraded(0, what), Due.UNKNOWN);
        }
        due.is("empty: flier(-1, 0)", kites.flier(-1, 0), Due.UNKNOWN);
        due.is("empty: go(0)", kites.go(0), Due.UNKNOWN);
        due.is("empty: go(-1)", kites.go(-1), Due.UNKNOWN);
        due.is("empty: pay(0, 2)", kites.pay(0, 2), Due.UNKNOWN);
        due.is("empty: trade(0)", kites.trade(0), Due.UNKNOWN);
        due.is("empty: trade(-1)", kites.trade(-1), Due.UNKNOWN);
        due.is("empty: reads(0)", kites.reads(0), Due.NONE);
        due.is("empty: kites", kites.count(5), 0);
        due.is("empty: crowd(true)", kites.crowd(true), 0);
        due.is("empty: wind(1, 5)", kites.wind(1, 5), 0);
        due.is("empty: pass(60)", kites.pass(60), 0);
        due.is("empty: planTurn(61, 3, 5)", kites.planTurn(61, 3, 5), 1);
        due.is("empty: the turn tangles nobody", kites.pass(1), 0);
        due.is("empty: still", kites.count(0), 0);
        due.is("the first who comes", kites.come('a', 1), 0);
    }

    // "a place, not the last one"
    private static void rowOfOne() {
        KiteWords kites = Due.withRow("a3");
        due.is("one: flier(0, 1)", kites.flier(0, 1), 'a');
        due.is("one: flier(1, 1)", kites.flier(1, 1), Due.UNKNOWN);
        due.is("one: trade(0)", kites.trade(0), Due.UNKNOWN);
        due.is("one: trade(-1)", kites.trade(-1), Due.UNKNOWN);
        due.is("one: ifTraded(0, 1)", kites.ifTraded(0, 1), Due.UNKNOWN);
        due.is("one: ifTraded(-1, 1)", kites.ifTraded(-1, 1), Due.UNKNOWN);
        due.is("one: wind tangles nobody", kites.wind(1, 5), 0);
        due.is("one: reads(0)", kites.reads(0), 'a');
        due.is("one: pay(1, 1)", kites.pay(1, 1), Due.UNKNOWN);
        due.is("one: pay(0, 1)", kites.pay(0, 1), 3);
        due.is("one: go(1)", kites.go(1), Due.UNKNOWN);
        due.is("one: go(0)", kites.go(0), 0);
        due.is("none: go(0)", kites.go(0), Due.UNKNOWN);
    }

    private static void rowOfTwo() {
        KiteWords kites = Due.withRow("a1,b1");
        due.is("two: ifTraded(0, 1)", kites.ifTraded(0, 1), 1);
        due.is("two: ifTraded(1, 1)", kites.ifTraded(1, 1), Due.UNKNOWN);
        due.is("two: trade(1)", kites.trade(1), Due.UNKNOWN);
        due.is("two: trade(0)", kites.trade(0), 0);
    }

    // "their places are numbered from 0 in the west"
    private static void rowOfTwelve() {
        KiteWords kites = Due.withRow(Due.fliers(12));
        for (int place = 0; place < 12; place++) {
            due.is("twelve: letter of " + place, kites.flier(place, 1), 'a' + place);
        }
        due.is("twelve: flier(12, 1)", kites.flier(12, 1), Due.UNKNOWN);
        due.is("twelve: ifTraded(10, 1)", kites.ifTraded(10, 1), 1);
        due.is("twelve: ifTraded(11, 1)", kites.ifTraded(11, 1), Due.UNKNOWN);
        due.is("twelve: ifTraded(12, 1)", kites.ifTraded(12, 1), Due.UNKNOWN);
        due.is("twelve: trade(11)", kites.trade(11), Due.UNKNOWN);
        due.is("twelve: trade(12)", kites.trade(12), Due.UNKNOWN);
        due.is("twelve: trade(10)", kites.trade(10), 0);
        due.is("twelve: trade(0)", kites.trade(0), 0);
        due.is("twelve: pay(12, 2)", kites.pay(12, 2), Due.UNKNOWN);
        due.is("twelve: pay(11, 2)", kites.pay(11, 2), 1);
        due.is("twelve: pay(0, 2)", kites.pay(0, 2), 1);
        due.is("twelve: go(12)", kites.go(12), Due.UNKNOWN);
        for (int place : NO_PLACES) {
            due.is("no place: flier(" + place + ", 0)", kites.flier(place, 0), Due.UNKNOWN);
            due.is("no place: ifTraded(" + place + ", 1)", kites.ifTraded(place, 1), Due.UNKNOWN);
            due.is("no place: trade(" + place + ")", kites.trade(place), Due.UNKNOWN);
            due.is("no place: pay(" + place + ", 3)", kites.pay(place, 3), Due.UNKNOWN);
            due.is("no place: go(" + place + ")", kites.go(place), Due.UNKNOWN);
        }
        due.is("twelve: go(11)", kites.go(11), 11);
        due.is("eleven: go(11)", kites.go(11), Due.UNKNOWN);
        due.is("eleven: go(0)", kites.go(0), 10);
    }

    // "letter: a to z"
    private static void lettersOfCome() {
        for (int sign = 0; sign < 1000; sign++) {
            boolean isLetter = sign >= 'a' && sign <= 'z';
            KiteWords kites = new KiteWords();
            due.is("come(" + sign + ", 1)", kites.come((char) sign, 1), isLetter ? 0 : Due.BAD_VALUE);
            due.is("come(" + sign + ", 1), letter", kites.flier(0, 1), isLetter ? sign : Due.UNKNOWN);
        }
        due.is("come(256 + a, 1)", new KiteWords().come((char) (256 + 'a'), 1), Due.BAD_VALUE);
        due.is("come(65280 + a, 1)", new KiteWords().come((char) (65280 + 'a'), 1), Due.BAD_VALUE);
        due.is("come(65535, 1)", new KiteWords().come((char) 65535, 1), Due.BAD_VALUE);
    }

    // "length: 1 to 9"
    private static void lengthsOfCome() {
        for (int length = -300; length <= 300; length++) {
            boolean isAllowed = length >= 1 && length <= 9;
            KiteWords kites = new KiteWords();
            due.is("come('a', " + length + ")", kites.come('a', length), isAllowed ? 0 : Due.BAD_VALUE);
            due.is("come('a', " + length + "), length", kites.flier(0, 2), isAllowed ? length : Due.UNKNOWN);
        }
        for (int length : new int[] {Integer.MIN_VALUE, Integer.MAX_VALUE, (1 << 16) + 1, (1 << 31) + 1}) {
            due.is("come('a', " + length + ")", new KiteWords().come('a', length), Due.BAD_VALUE);
        }
    }

    // "There are at most 12 fliers in a row"; "FULL if there are 12"
    private static void twelveCome() {
        KiteWords kites = new KiteWords();
        for (int place = 0; place < 12; place++) {
            due.is("the one at " + place, kites.come('a', 1), place);
        }
        due.is("the 13th", kites.come('a', 1), Due.FULL);
        due.is("twelve", kites.count(0), 12);
        due.is("one goes", kites.go(5), 11);
        due.is("one has room", kites.come('b', 1), 11);
        due.is("the number of the 13th who came", kites.flier(11, 0), 12);
        due.is("one more has not", kites.come('b', 1), Due.FULL);
    }

    // "at most 99 in all"; "FULL if there ... have been 99"
    private static void ninetyNineCome() {
        KiteWords kites = new KiteWords();
        Due.comeAndGo(kites, 97);
        due.is("the 98th", kites.come('a', 1), 0);
        due.is("the 99th", kites.come('b', 1), 1);
        due.is("its number", kites.flier(1, 0), 98);
        due.is("the 100th, with room for ten", kites.come('c', 1), Due.FULL);
        kites.go(0);
        kites.go(0);
        due.is("the 100th, with an empty row", kites.come('c', 1), Due.FULL);
        kites.undo();
        due.is("who went is back, 99 have been", kites.come('c', 1), Due.FULL);
        kites.undo();
        kites.undo();
        due.is("98 have been again", kites.come('c', 1), 1);
        due.is("the number is there again", kites.flier(1, 0), 98);
        due.is("99 again", kites.come('d', 1), Due.FULL);
    }

    // "numbered from 0 in the order in which fliers came"
    private static void numbersAreNotUsedAgain() {
        KiteWords kites = Due.withRow("a1,b1,c1");
        kites.go(2);
        kites.come('d', 1);
        due.is("number of the next one", kites.flier(2, 0), 3);
        kites.trade(1);
        due.is("a number goes along", kites.flier(1, 0), 3);
        kites.come('e', 1);
        due.is("and counts on", kites.flier(3, 0), 4);
    }

    // "FULL if there would be more than 12"
    private static void twelveByRow() {
        int[][] cases = {{0, 12, 1}, {0, 13, 0}, {11, 1, 1}, {11, 2, 0}, {12, 1, 0}, {1, 11, 1}, {1, 12, 0}, {6, 6, 1},
            {6, 7, 0}, {0, 1, 1}, {0, 20, 0}};
        for (int[] c : cases) {
            KiteWords kites = c[0] == 0 ? new KiteWords() : Due.withRow(Due.fliers(c[0]));
            Due.write(kites, Due.fliers(c[1]));
            due.is(c[0] + " and " + c[1], kites.readRow(), c[2] == 1 ? c[0] + c[1] : Due.FULL);
            due.is(c[0] + " and " + c[1] + ": all or none", kites.count(0), c[0] + c[2] * c[1]);
            due.is(c[0] + " and " + c[1] + ": the text stays", kites.count(13), 3 * c[1] - 1);
        }
    }

    // "or have been more than 99"
    private static void ninetyNineByRow() {
        int[][] cases = {{87, 12, 1}, {88, 12, 0}, {88, 11, 1}, {97, 2, 1}, {98, 1, 1}, {98, 2, 0}, {99, 1, 0}};
        for (int[] c : cases) {
            KiteWords kites = new KiteWords();
            Due.comeAndGo(kites, c[0]);
            Due.write(kites, Due.fliers(c[1]));
            due.is(c[0] + " were, " + c[1] + " come", kites.readRow(), c[2] == 1 ? c[1] : Due.FULL);
            due.is(c[0] + " were, all or none of " + c[1], kites.count(0), c[2] * c[1]);
            if (c[2] == 1) {
                due.is("number of the last", kites.flier(c[1] - 1, 0), c[0] + c[1] - 1);
            }
        }
    }

    // The text holds 60 characters: 20 fliers and one more comma.
    private static void longestRowTexts() {
        KiteWords kites = new KiteWords();
        Due.write(kites, Due.fliers(20));
        due.is("59 characters", kites.count(13), 59);
        due.is("twenty fliers", kites.readRow(), Due.FULL);
        due.is("the 60th", kites.type(','), 60);
        due.is("ends too early", kites.readRow(), -1000160);
    }

    // "Returns how many are left"
    private static void goUntilEmpty() {
        KiteWords kites = Due.withRow(Due.fliers(12));
        for (int left = 11; left >= 0; left--) {
            due.is("left", kites.go(left % 2 == 0 ? 0 : left), left);
        }
        due.is("nobody is left", kites.go(0), Due.UNKNOWN);
        due.is("empty", kites.count(0), 0);
    }

    // "NOT_POSSIBLE if it is tangled"
    private static void goWhileTangled() {
        KiteWords kites = Due.withRow("a1,b9,c1");
        kites.wind(1, 5);
        for (int minute = 0; minute < 3; minute++) {
            due.is("the western, at " + minute, kites.go(1), Due.NOT_POSSIBLE);
            due.is("the eastern, at " + minute, kites.go(2), Due.NOT_POSSIBLE);
            kites.pass(1);
        }
        due.is("free at 3", kites.go(1), 2);
        due.is("the other, too", kites.go(1), 1);
    }

    // "those east of it come one place to the west": with all that is theirs
    private static void goBesideTangled() {
        KiteWords kites = Due.withRow("a1,b1,c9,d1,e9,f1");
        kites.trade(0);
        due.is("c with d, e with f", kites.wind(1, 5), 2);
        kites.pass(1);
        due.is("b goes, who is the first", kites.go(0), 5);
        due.is("a goes", kites.go(0), 4);
        int[] mates = {1, 0, 3, 2};
        for (int place = 0; place < 4; place++) {
            due.is("mate at " + place, kites.flier(place, 4), mates[place]);
            due.is("minutes at " + place, kites.flier(place, 5), 2);
            due.is("number at " + place, kites.flier(place, 0), place + 2);
            due.is("trades at " + place, kites.flier(place, 7), 0);
            due.is("trade at " + place, kites.trade(place), place < 3 ? Due.NOT_POSSIBLE : Due.UNKNOWN);
        }
        kites.come('g', 1);
        due.is("who comes is not tangled", kites.flier(4, 4), Due.NONE);
        due.is("for no minutes", kites.flier(4, 5), 0);
        due.is("and has not traded", kites.flier(4, 7), 0);
        kites.pass(2);
        due.is("all are free", kites.trade(1), 1);
    }

    // "(their kites are shown elsewhere then; nobody is tangled by that)"
    private static void goTanglesNobody() {
        KiteWords kites = new KiteWords();
        kites.wind(1, 5);
        Due.write(kites, "a9,b1,c3");
        kites.readRow();
        // a at 45, b at 15, c at 35
        due.is("b goes", kites.go(1), 2);
        due.is("c is shown one place to the west", kites.flier(1, 3), 25);
        due.is("a stays", kites.flier(0, 3), 45);
        due.is("no tangle", kites.count(10), 0);
        due.is("no mate", kites.flier(0, 4), Due.NONE);
        due.is("the most western goes", kites.go(0), 1);
        due.is("c is shown at the first place", kites.flier(0, 3), 15);
    }

    // "length: 1 to 9"; "NONE if it is so already"
    private static void lengthsOfPay() {
        for (int now = 1; now <= 9; now++) {
            for (int length = -20; length <= 20; length++) {
                KiteWords kites = new KiteWords();
                kites.come('a', now);
                boolean isAllowed = length >= 1 && length <= 9;
                int answer = !isAllowed ? Due.BAD_VALUE : length == now ? Due.NONE : now;
                due.is("of " + now + ", pay(0, " + length + ")", kites.pay(0, length), answer);
                due.is("of " + now + ", length", kites.flier(0, 2), isAllowed ? length : now);
            }
        }
        KiteWords kites = Due.withRow("a1");
        for (int length : new int[] {Integer.MIN_VALUE, Integer.MAX_VALUE, (1 << 16) + 2, (1 << 31) + 2}) {
            due.is("pay(0, " + length + ")", kites.pay(0, length), Due.BAD_VALUE);
        }
    }

    // pay() is refused for no tangle.
    private static void payWhileTangled() {
        KiteWords kites = Due.withRow("a9,b1");
        kites.wind(1, 5);
        due.is("the western pays", kites.pay(0, 1), 9);
        due.is("the eastern pays", kites.pay(1, 9), 1);
        due.is("they stay tangled", kites.flier(0, 4), 1);
        due.is("for as long", kites.flier(0, 5), 3);
    }

    // "A flier gives its line another length (nobody is tangled by that)"
    private static void payTanglesNobody() {
        KiteWords kites = new KiteWords();
        kites.wind(3, 5);
        Due.write(kites, "a1,b1");
        kites.readRow();
        due.is("a crosses to the same place", kites.pay(1, 3), 1);
        due.is("at the same place", kites.flier(0, 3) - kites.flier(1, 3), 0);
        due.is("and to the other side", kites.pay(1, 9), 3);
        due.is("no tangle", kites.count(10), 0);
        due.is("no minute", kites.count(1), 0);
    }

    // "shown at 10 * p; with a wind from the west the strength times the length more, from the east as much less"
    private static void shownFarthest() {
        KiteWords kites = Due.withRow("a9,b1,c1,d1,e1,f1,g1,h1,i1,j1,k1,l9");
        due.is("the most western place", kites.flier(0, 3), 0);
        due.is("the most eastern place", kites.flier(11, 3), 110);
        int[][] cases = {{1, 5, 45, 155}, {3, 5, -45, 65}, {0, 5, 0, 110}, {2, 5, 0, 110}, {1, 0, 0, 110}, {3, 0, 0, 110},
            {1, 1, 9, 119}, {3, 1, -9, 101}};
        for (int[] c : cases) {
            kites.wind(c[0], c[1]);
            due.is("wind " + c[0] + ", " + c[1] + ": the western", kites.flier(0, 3), c[2]);
            due.is("wind " + c[0] + ", " + c[1] + ": the eastern", kites.flier(11, 3), c[3]);
        }
    }

    // "or if another kite (also that of a tangled flier) is shown at the same place (both cannot, then)"
    private static void hiddenAtTheSamePlaceOnly() {
        for (int length = 1; length <= 9; length++) {
            KiteWords kites = new KiteWords();
            kites.wind(1, 5);
            // The first and the fifth are shown 40 apart without wind: as far as lines can move one over the other.
            Due.write(kites, "a" + length + ",b4,c4,d4,e1");
            kites.readRow();
            boolean isHidden = 5 * length == 45;
            due.is("length " + length + ": a", kites.flier(0, 6), isHidden || length == 6 || length == 8 ? 0 : 1);
            due.is("length " + length + ": e", kites.flier(4, 6), isHidden ? 0 : 1);
        }
        KiteWords near = new KiteWords();
        near.wind(1, 3);
        Due.write(near, "a4,b1");
        near.readRow();
        // at 12 and 13
        due.is("one apart is not hidden", near.count(5), 2);
        near.pay(0, 1);
        near.wind(1, 5);
        near.pay(0, 3);
        due.is("at the same place both are", near.count(5), 0);
    }

    // "if the kite that was shown west of the other ahead of the trade is shown west of it, or at the same place"
    private static void tradeTanglesFromTenOn() {
        for (int side = 0; side <= 3; side++) {
            for (int strength = 0; strength <= 5; strength++) {
                for (int lengths = 0; lengths < 81; lengths++) {
                    int west = 1 + lengths / 9;
                    int east = 1 + lengths % 9;
                    // The wind moves the two kites this far apart or together; ten is as far as the places are apart.
                    int moved = side % 2 == 0 ? 0 : strength * Math.abs(east - west);
                    KiteWords kites = new KiteWords();
                    kites.wind(side, strength);
                    kites.come('a', west);
                    kites.come('b', east);
                    String told = "wind " + side + ", " + strength + ", lines " + west + ", " + east;
                    due.is(told + ": safe", kites.ifTraded(0, 1), moved >= 10 ? 0 : 1);
                    due.is(told + ": trade", kites.trade(0), moved >= 10 ? 1 : 0);
                    due.is(told + ": tangled for", kites.flier(0, 5), moved >= 10 ? 2 : 0);
                }
            }
        }
    }

    // "if both were shown at the same place, always"
    private static void tradeOfKitesAtTheSamePlace() {
        KiteWords west = new KiteWords();
        west.wind(1, 5);
        Due.write(west, "a3,b1");
        west.readRow();
        due.is("at the same place", west.flier(0, 3) - west.flier(1, 3), 0);
        due.is("not safe", west.ifTraded(0, 1), 0);
        due.is("tangled", west.trade(0), 1);
        KiteWords east = new KiteWords();
        east.wind(3, 5);
        Due.write(east, "a1,b3");
        east.readRow();
        due.is("at the same place, from the east", east.flier(0, 3) - east.flier(1, 3), 0);
        due.is("tangled, from the east", east.trade(0), 1);
    }

    // "NOT_POSSIBLE if either is tangled"
    private static void tradeBesideTangled() {
        KiteWords kites = Due.withRow("a1,b9,c1,d1");
        kites.wind(1, 5);
        for (int minute = 0; minute < 3; minute++) {
            for (int place = 0; place < 3; place++) {
                due.is("trade(" + place + ") at " + minute, kites.trade(place), Due.NOT_POSSIBLE);
            }
            kites.pass(1);
        }
        due.is("free at 3", kites.trade(2), 0);
        due.is("and the others", kites.trade(1), 1);
        due.is("beside them again", kites.trade(0), Due.NOT_POSSIBLE);
    }

    // "or the count of minutes is 9999"
    private static void tradeAtTheLastMinute() {
        KiteWords kites = Due.withRow("a1,b1");
        kites.planTurn(9999, 2, 4);
        Due.passTo(kites, 9998);
        due.is("at 9998", kites.trade(0), 0);
        due.is("9999", kites.count(1), 9999);
        due.is("the turn of the last minute", kites.count(2), 2);
        due.is("at 9999", kites.trade(0), Due.NOT_POSSIBLE);
        due.is("9999 still", kites.count(1), 9999);
        kites.undo();
        due.is("at 9998 again", kites.trade(0), 0);
    }

    // "Fliers who are tangled stay so for some minutes (1 to 9; at first 3)"; "one less for them, too"
    private static void tangledMinutesOfATrade() {
        for (int minutes = 1; minutes <= 9; minutes++) {
            KiteWords kites = new KiteWords();
            kites.setTangle(minutes);
            kites.wind(1, 5);
            Due.write(kites, "a9,b1");
            kites.readRow();
            due.is("trade of " + minutes, kites.trade(0), 1);
            for (int left = minutes - 1; left > 0; left--) {
                due.is("of " + minutes + ", left", kites.flier(0, 5), left);
                due.is("of " + minutes + ", left of the other", kites.flier(1, 5), left);
                due.is("of " + minutes + ", with", kites.flier(0, 4), 1);
                kites.pass(1);
            }
            due.is("of " + minutes + ", none left", kites.flier(0, 5), 0);
            due.is("of " + minutes + ", free", kites.flier(0, 4), Due.NONE);
            due.is("of " + minutes + ", the other, too", kites.flier(1, 4), Due.NONE);
        }
    }

    // "7 for its trades so far"
    private static void tradesSoFar() {
        KiteWords kites = Due.withRow(Due.fliers(12));
        for (int place = 0; place < 12; place++) {
            due.is("no trades at " + place, kites.flier(place, 7), 0);
        }
        for (int place = 0; place < 11; place++) {
            due.is("a trades to the east from " + place, kites.trade(place), 0);
            due.is("its trades", kites.flier(place + 1, 7), place + 1);
            due.is("those of the other", kites.flier(place, 7), 1);
            due.is("all trades", kites.count(9), place + 1);
        }
        kites.trade(10);
        due.is("they trade back: a", kites.flier(10, 7), 12);
        due.is("they trade back: l", kites.flier(11, 7), 2);
        kites.go(10);
        due.is("who goes takes them along", kites.flier(10, 7), 2);
        due.is("but they were", kites.count(9), 12);
        kites.come('m', 1);
        due.is("who comes has none", kites.flier(11, 7), 0);
    }

    // flier: what from 0 to 7
    private static void flierWhat() {
        KiteWords kites = Due.withRow("a1,b1");
        for (int what = -20; what <= 20; what++) {
            boolean isKnown = what >= 0 && what <= 7;
            due.is("flier(1, " + what + ") is bad", kites.flier(1, what) == Due.BAD_VALUE ? 1 : 0, isKnown ? 0 : 1);
        }
        due.is("flier(1, least)", kites.flier(1, Integer.MIN_VALUE), Due.BAD_VALUE);
        due.is("flier(1, greatest)", kites.flier(1, Integer.MAX_VALUE), Due.BAD_VALUE);
        due.is("flier(1, 256)", kites.flier(1, 256), Due.BAD_VALUE);
        due.is("flier(1, 65536)", kites.flier(1, 65536), Due.BAD_VALUE);
    }

    // "the place of the flier with whom it is tangled (NONE if it is not)": from the first pair to the last
    private static void flierMates() {
        KiteWords kites = Due.withRow("a9,b1,c9,d1,e9,f1,g9,h1,i9,j1,k9,l1");
        due.is("six pairs", kites.wind(1, 5), 6);
        for (int place = 0; place < 12; place++) {
            due.is("mate of " + place, kites.flier(place, 4), place % 2 == 0 ? place + 1 : place - 1);
            due.is("minutes of " + place, kites.flier(place, 5), 3);
            due.is("cannot be read, " + place, kites.flier(place, 6), 0);
        }
        kites.pass(3);
        for (int place = 0; place < 12; place++) {
            due.is("no mate of " + place, kites.flier(place, 4), Due.NONE);
            due.is("no minutes of " + place, kites.flier(place, 5), 0);
        }
    }
}

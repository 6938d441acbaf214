import java.io.IOException;

/**
 * Every sentence of the document outside the promises, in its order: quoted, and held by the calls behind it. The
 * limits of these sentences stand in the BoundsTests.
 */
public final class TermsSentencesTest {
    private static final Due due = new Due("TermsSentencesTest");
    private static final String TWELVE = "a1,b2,c3,d4,e5,f6,g7,h8,i9,j1,k2,l3";
    private static Sentences document;

    public static void main(String[] args) throws IOException {
        document = new Sentences(due, section -> !section.startsWith("Promise "));
        whatItIs();
        document.section("FLIERS AND KITES");
        places();
        whatAFlierHas();
        sidesOfTheWind();
        whereKitesAreShown();
        sidesOfTheCrowd();
        orderOfReading();
        whatCannotBeRead();
        document.section("TRADES");
        whoCanTrade();
        whenATradeTangles();
        theMinuteBehindATrade();
        howLongTheyStayTangled();
        document.section("TIME AND WIND");
        aMinute();
        thePlan();
        aTurnThatIsDone();
        windByHand();
        document.section("THE WORD");
        theWord();
        whenItIsSpelled();
        theRowWithoutWind();
        theFewestTrades();
        howTheyAreCounted();
        goodAndSafe();
        document.section("TEXTS");
        theText();
        aTextOfARow();
        aTextOfAWord();
        theFault();
        document.section("HISTORY");
        theHistory();
        whatIsRecorded();
        theSnapshot();
        whatAStateIs();
        document.section("ERRORS");
        theOrderOfErrors();
        noneIsNoError();
        nothingIsChanged();
        theConstants();
        theGroupsOfTheFace();
        notPromised();
        document.close();
        due.close();
    }

    private static void whatItIs() {
        document.section("What it is");
        document.saysNoAnswer("Kites with letters that spell words: fliers in a row who trade places, lines of several "
                + "lengths, a wind that turns by a plan and moves kites aside, kites that hide one another, lines that "
                + "tangle as places are traded or the wind turns, time to untangle, a crowd on one side or the other that "
                + "reads, a word that is wanted, the fewest trades to it, the next trade that is safe, how long it takes, "
                + "fliers who come and go, rows that are read from texts with the places of faults, a log of tangles, undo "
                + "and a snapshot.");
        document.says("An object is used for at most 512 calls after it has been made; what later calls answer is free.");
        KiteWords kites = new KiteWords();
        kites.come('a', 1);
        for (int call = 2; call < 512; call++) {
            due.is("call " + call, kites.pass(1), 0);
        }
        due.is("the 512th call", kites.count(1), 510);
    }

    private static void places() {
        document.says("There are at most 12 fliers in a row from west to east; "
                + "their places are numbered from 0 in the west.");
        KiteWords kites = Due.withRow(TWELVE);
        due.is("twelve", kites.count(0), 12);
        due.is("twelve kites", kites.count(5), 12);
        due.is("one more", kites.come('m', 1), Due.FULL);
        due.is("place 0", kites.flier(0, 1), 'a');
        due.is("place 11", kites.flier(11, 1), 'l');
        due.is("place 12", kites.flier(12, 1), Due.UNKNOWN);
        for (int place = 1; place < 12; place++) {
            due.holds("place " + place + " is east of the one before",
                    kites.flier(place - 1, 3) < kites.flier(place, 3));
        }
    }

    private static void whatAFlierHas() {
        document.says("A flier has a number (numbered from 0 in the order in which fliers came, at most 99 in all), a "
                + "letter (a to z) and a line of a length (1 to 9), and is tangled with another flier or not.");
        KiteWords kites = Due.withRow("z9,a1");
        kites.come('m', 5);
        int[][] fliers = {{0, 'z', 9}, {1, 'a', 1}, {2, 'm', 5}};
        for (int place = 0; place < 3; place++) {
            for (int what = 0; what < 3; what++) {
                due.is("flier(" + place + ", " + what + ")", kites.flier(place, what), fliers[place][what]);
            }
            due.is("flier(" + place + ", 4)", kites.flier(place, 4), Due.NONE);
        }
        kites.wind(1, 5);
        // z at 45, a at 15, m at 45
        due.is("z is tangled with a", kites.flier(0, 4), 1);
        due.is("a is tangled with z", kites.flier(1, 4), 0);
        due.is("m is not", kites.flier(2, 4), Due.NONE);
        KiteWords many = new KiteWords();
        Due.comeAndGo(many, 98);
        due.is("the 99th", many.come('a', 1), 0);
        due.is("its number", many.flier(0, 0), 98);
        many.go(0);
        due.is("the 100th", many.come('a', 1), Due.FULL);
    }

    private static void sidesOfTheWind() {
        document.says("The wind blows from the south (0, at first), from the west (1), from the north (2) or from the "
                + "east (3), with a strength (0 to 5; 1 at first).");
        KiteWords kites = new KiteWords();
        due.is("side at first", kites.count(2), 0);
        due.is("strength at first", kites.count(3), 1);
        kites.come('a', 1);
        int[] shown = {0, 5, 0, -5};
        for (int side = 0; side < 4; side++) {
            due.is("wind from " + side, kites.wind(side, 5), 0);
            due.is("it blows from " + side, kites.count(2), side);
            due.is("the kite in a wind from " + side, kites.flier(0, 3), shown[side]);
        }
        due.is("no strength", kites.wind(3, 0), 0);
        due.is("strength 0", kites.count(3), 0);
    }

    private static void whereKitesAreShown() {
        document.says("The kite of the flier at the place p is shown at 10 * p; with a wind from the west the strength "
                + "times the length more, with one from the east as much less.");
        KiteWords kites = Due.withRow("a1,b9,c4");
        int[][] winds = {{0, 5, 0, 10, 20}, {1, 0, 0, 10, 20}, {1, 2, 2, 28, 28}, {1, 5, 5, 55, 40}, {2, 5, 0, 10, 20},
            {3, 2, -2, -8, 12}, {3, 5, -5, -35, 0}};
        for (int[] wind : winds) {
            kites.wind(wind[0], wind[1]);
            for (int place = 0; place < 3; place++) {
                due.is("wind(" + wind[0] + ", " + wind[1] + "): flier(" + place + ", 3)", kites.flier(place, 3),
                        wind[2 + place]);
            }
        }
    }

    private static void sidesOfTheCrowd() {
        document.says("The crowd stands in the south (at first) or in the north.");
        KiteWords kites = new KiteWords();
        due.is("in the south at first", kites.count(4), 0);
        due.is("there already", kites.crowd(false), Due.NONE);
        kites.crowd(true);
        due.is("in the north", kites.count(4), 1);
        kites.crowd(false);
        due.is("in the south again", kites.count(4), 0);
    }

    private static void orderOfReading() {
        document.says("It reads kites by where they are shown: from the south the lowest first, from the north the "
                + "greatest first.");
        KiteWords kites = new KiteWords();
        kites.wind(1, 5);
        Due.write(kites, "a9,b1,c2,d9");
        kites.readRow();
        // a at 45, b at 15, c at 30, d at 75: nobody is tangled who comes into a wind
        due.holds("from the south", Due.read(kites).equals("bcad"));
        kites.crowd(true);
        due.holds("from the north", Due.read(kites).equals("dacb"));
    }

    private static void whatCannotBeRead() {
        document.says("A kite cannot be read while its flier is tangled, or if another kite (also that of a tangled "
                + "flier) is shown at the same place (both cannot, then).");
        KiteWords kites = Due.withRow("a5,b9,c1,d8");
        due.is("b with c", kites.wind(1, 5), 1);
        // a at 25, b at 55, c at 25, d at 70
        due.holds("a is hidden by c, who is tangled", Due.read(kites).equals("d"));
        kites.pass(2);
        due.is("tangled still", kites.flier(1, 6), 0);
        kites.pass(1);
        due.holds("b is free, a and c hide one another", Due.read(kites).equals("bd"));
        kites.pay(0, 4);
        due.holds("a is shown at 20 now", Due.read(kites).equals("acbd"));
    }

    private static void whoCanTrade() {
        document.says("Two fliers next to one another, neither of whom is tangled, can trade places; this takes a "
                + "minute, which passes behind the trade.");
        KiteWords kites = Due.withRow("a1,b1,c9,d1,e1,f1");
        kites.planTurn(1, 0, 3);
        due.is("c with d", kites.wind(1, 5), 1);
        due.is("c is tangled", kites.trade(1), Due.NOT_POSSIBLE);
        due.is("both are", kites.trade(2), Due.NOT_POSSIBLE);
        due.is("d is", kites.trade(3), Due.NOT_POSSIBLE);
        due.is("neither of e and f is", kites.trade(4), 0);
        due.holds("they have traded", Due.row(kites).equals("abcdfe"));
        due.is("a minute", kites.count(1), 1);
        due.is("with its turn", kites.count(2) * 10 + kites.count(3), 3);
        due.is("and one less for the others", kites.flier(2, 5), 2);
        due.is("neither of a and b is", kites.trade(0), 0);
    }

    private static void whenATradeTangles() {
        document.says("They are tangled with one another by it if the kite that was shown west of the other ahead of the "
                + "trade is shown west of it, or at the same place, behind it, too; if both were shown at the same place, "
                + "always.");
        // Wind from the west with the strength 5: the lines, and whether they are tangled.
        int[][] lines = {{1, 1, 0}, {2, 1, 0}, {1, 2, 0}, {1, 3, 1}, {1, 4, 1}, {3, 1, 1}, {4, 1, 1}, {9, 9, 0}};
        for (int[] line : lines) {
            KiteWords kites = new KiteWords();
            kites.wind(1, 5);
            kites.come('a', line[0]);
            kites.come('b', line[1]);
            String told = "lines " + line[0] + " and " + line[1];
            due.is(told, kites.trade(0), line[2]);
            due.is(told + ": mate in the west", kites.flier(0, 4), line[2] == 1 ? 1 : Due.NONE);
            due.is(told + ": mate in the east", kites.flier(1, 4), line[2] == 1 ? 0 : Due.NONE);
        }
    }

    private static void theMinuteBehindATrade() {
        document.says("(The minute that passes behind the trade is one less for them, too.)");
        KiteWords kites = new KiteWords();
        kites.wind(1, 5);
        kites.come('a', 1);
        kites.come('b', 9);
        due.is("tangled", kites.trade(0), 1);
        due.is("two of three minutes are left", kites.flier(0, 5), 2);
        due.is("also of the other", kites.flier(1, 5), 2);
        kites.pass(2);
        due.is("free", kites.flier(1, 4), Due.NONE);
    }

    private static void howLongTheyStayTangled() {
        document.says("Fliers who are tangled stay so for some minutes (1 to 9; at first 3): with each minute that passes "
                + "there is one less, and at 0 they are not tangled any more.");
        for (int minutes = 1; minutes <= 9; minutes++) {
            KiteWords kites = Due.withRow("a9,b1");
            kites.setTangle(minutes);
            kites.wind(1, 5);
            for (int left = minutes; left > 0; left--) {
                due.is("of " + minutes + ", left", kites.flier(0, 5), left);
                due.is("of " + minutes + ", tangled at " + left, kites.flier(1, 4), 0);
                kites.pass(1);
            }
            due.is("of " + minutes + ", none left", kites.flier(0, 5), 0);
            due.is("of " + minutes + ", free", kites.flier(1, 4), Due.NONE);
        }
        KiteWords first = Due.withRow("a9,b1");
        first.wind(1, 5);
        due.is("three at first", first.flier(0, 5), 3);
    }

    private static void aMinute() {
        document.says("A minute passes like this: the count of minutes grows by 1 (0 at first); then all that are tangled "
                + "have one minute less; then, if the plan has a turn for this minute, the wind becomes that of the turn: "
                + "each pair of neighbours, neither of whom is tangled (any more, or by that already), from the west to "
                + "the east, is tangled then, if their kites are not shown as they were: the western flier's west of the "
                + "other one, at the same place, or east of it.");
        KiteWords kites = Due.withRow("a9,b5,c1,d1");
        due.is("minute 0", kites.count(1), 0);
        kites.planTurn(2, 1, 5);
        kites.planTurn(4, 0, 5);
        kites.planTurn(5, 1, 4);
        due.is("no turn for 1", kites.pass(1), 0);
        due.is("minute 1", kites.count(1), 1);
        // at 2: a at 45, b at 35, c at 25, d at 35; b is tangled with a already, so not with c
        due.is("the turn of 2", kites.pass(1), 1);
        due.is("a with b", kites.flier(0, 4), 1);
        due.is("not c with b", kites.flier(2, 4), Due.NONE);
        due.is("they have all their minutes", kites.flier(0, 5), 3);
        due.is("the count that has grown", kites.tangle(0, 0), 2);
        due.is("the wind of the turn", kites.count(2) * 10 + kites.count(3), 15);
        // at 4 a and b are tangled still, c is free but b is not
        due.is("to 4", kites.pass(2), 0);
        due.is("one minute left", kites.flier(1, 5), 1);
        // at 5 they are free ahead of the turn: a from 0 to 36, b from 10 to 30, c from 20 to 24, d from 30 to 34
        due.is("the turn of 5", kites.pass(1), 1);
        due.is("a with b again", kites.flier(1, 4), 0);
        due.is("at 5", kites.tangle(0, 0), 5);
    }

    private static void thePlan() {
        document.says("The plan has at most 8 turns, each with a minute (1 to 9999, greater than now as it is added), a "
                + "side and a strength; at most one for a minute.");
        KiteWords kites = new KiteWords();
        kites.pass(1);
        due.is("minute 0", kites.planTurn(0, 1, 1), Due.BAD_VALUE);
        due.is("minute 10000", kites.planTurn(10000, 1, 1), Due.BAD_VALUE);
        due.is("now", kites.planTurn(1, 1, 1), Due.NOT_POSSIBLE);
        for (int turn = 1; turn <= 7; turn++) {
            due.is("turn " + turn, kites.planTurn(1 + turn, turn % 4, turn % 6), turn);
            due.is("again", kites.planTurn(1 + turn, 0, 0), Due.NOT_POSSIBLE);
        }
        due.is("the eighth", kites.planTurn(9999, 2, 5), 8);
        due.is("the ninth", kites.planTurn(50, 2, 5), Due.FULL);
        for (int turn = 1; turn <= 7; turn++) {
            due.is("minute of " + turn, kites.turnOf(turn - 1, 0), 1 + turn);
            due.is("side of " + turn, kites.turnOf(turn - 1, 1), turn % 4);
            due.is("strength of " + turn, kites.turnOf(turn - 1, 2), turn % 6);
        }
    }

    private static void aTurnThatIsDone() {
        document.says("A turn that is done is gone.");
        KiteWords kites = new KiteWords();
        kites.planTurn(1, 3, 3);
        kites.planTurn(3, 2, 2);
        kites.pass(1);
        due.is("one turn", kites.count(11), 1);
        due.is("that of 3", kites.turnOf(0, 0), 3);
        due.is("it is not there to be dropped", kites.dropTurn(1), Due.UNKNOWN);
        kites.wind(0, 0);
        kites.pass(1);
        due.is("it is not done again", kites.count(3), 0);
    }

    private static void windByHand() {
        document.says("To set the wind by hand is like a turn, at once.");
        KiteWords byHand = Due.withRow("a9,b5,c4,d1,e9");
        KiteWords byPlan = Due.withRow("a9,b5,c4,d1,e9");
        byPlan.planTurn(2, 1, 5);
        byHand.pass(2);
        due.is("by the plan", byPlan.pass(2), 2);
        due.is("by hand", byHand.wind(1, 5), 2);
        due.holds("all is alike", Picture.of(byHand).equals(Picture.of(byPlan)));
        due.is("no minute", byHand.count(1), 2);
    }

    private static void theWord() {
        document.says("There is a word that is wanted (1 to 12 letters), or none (at first).");
        KiteWords kites = new KiteWords();
        due.is("none at first", kites.count(6), 0);
        due.is("no letter", Due.want(kites, ""), -1000100);
        due.is("one letter", Due.want(kites, "z"), 1);
        due.is("letters", kites.count(6), 1);
        due.is("twelve", Due.want(kites, "abcdefghijkl"), 12);
        due.is("letters", kites.count(6), 12);
        due.is("thirteen", Due.want(kites, "abcdefghijklm"), -1000112);
        due.is("letters still", kites.count(6), 12);
    }

    private static void whenItIsSpelled() {
        document.says("It is spelled if the kites that can be read, in their order, are just its letters, and all kites "
                + "can be read.");
        KiteWords kites = Due.withRow("a9,b1,c1");
        String[] words = {"abc", "cba", "xbc", "axc", "abx", "ab", "bc", "abcc", "a"};
        for (String word : words) {
            Due.want(kites, word);
            due.is(word + " from the south", kites.count(8), word.equals("abc") ? 1 : 0);
        }
        kites.crowd(true);
        Due.want(kites, "cba");
        due.is("cba from the north", kites.count(8), 1);
        kites.crowd(false);
        kites.wind(1, 5);
        Due.want(kites, "c");
        due.is("c can be read, but not all", kites.count(8), 0);
        kites.pass(3);
        // a at 45, b at 15, c at 25
        Due.want(kites, "bca");
        due.is("as the kites are shown", kites.count(8), 1);
    }

    private static void theRowWithoutWind() {
        document.says("The row as the crowd would read it without wind is that of the letters by places (from the south "
                + "from the west on, from the north from the east on).");
        KiteWords kites = Due.withRow("a9,b1,c1");
        kites.wind(1, 5);
        Due.want(kites, "abc");
        due.is("the wind does not count", kites.count(7), 0);
        kites.crowd(true);
        due.is("from the north it is cba", kites.count(7), 3);
        Due.want(kites, "cba");
        due.is("which is the word", kites.count(7), 0);
    }

    private static void theFewestTrades() {
        document.says("The fewest trades to the word are the fewest trades of neighbours by which this row becomes the "
                + "word: NONE if the letters of both are not the same.");
        String[] words = {"abcd", "abdc", "badc", "bcda", "dabc", "dcab", "dcba", "abc", "abcde", "abcc", "xbcd"};
        int[] fewest = {0, 1, 2, 3, 3, 5, 6, Due.NONE, Due.NONE, Due.NONE, Due.NONE};
        KiteWords kites = Due.withRow("a1,b1,c1,d1");
        for (int i = 0; i < words.length; i++) {
            Due.want(kites, words[i]);
            due.is("abcd to " + words[i], kites.count(7), fewest[i]);
        }
        KiteWords few = Due.withRow("a1");
        Due.want(few, "acb");
        Due.want(few, "a");
        due.is("a to a", few.count(7), 0);
        few.come('b', 1);
        due.is("ab to a", few.count(7), Due.NONE);
        Due.want(few, "ac");
        due.is("ab to ac", few.count(7), Due.NONE);
    }

    private static void howTheyAreCounted() {
        document.says("To count them, the first letter a of the word is that of the first flier with an a in this row, "
                + "and so on, each letter of the word in turn; the count is how many pairs of fliers stand the other way "
                + "round than they should.");
        KiteWords kites = Due.withRow("a1,b1,a1,b1,a1");
        Due.want(kites, "bbaaa");
        // the first b is behind one a, the second behind two
        due.is("ababa to bbaaa", kites.count(7), 3);
        Due.want(kites, "aaabb");
        due.is("ababa to aaabb", kites.count(7), 3);
        Due.want(kites, "baaab");
        due.is("ababa to baaab", kites.count(7), 2);
        kites.go(0);
        kites.crowd(true);
        // baba is read as abab from the north
        Due.want(kites, "bbaa");
        due.is("abab to bbaa", kites.count(7), 3);
    }

    private static void goodAndSafe() {
        document.says("A trade is good if it makes this count less (whether it is possible now or not), and safe if "
                + "neither flier is tangled, and it would tangle nobody (the trade itself, not the wind behind it).");
        KiteWords kites = Due.withRow("c1,a9,b1,b1");
        Due.want(kites, "abbc");
        kites.planTurn(1, 3, 5);
        told(kites, "without wind", new int[] {1, 0, 0}, new int[] {1, 1, 1});
        due.is("a with the first b", kites.wind(1, 5), 1);
        told(kites, "a tangle", new int[] {1, 0, 0}, new int[] {0, 0, 0});
        kites.dropTurn(1);
        kites.pass(3);
        // c at 5, a at 55, b at 25, b at 35
        told(kites, "free", new int[] {1, 0, 0}, new int[] {0, 0, 1});
        kites.crowd(true);
        told(kites, "from the north", new int[] {0, 1, 0}, new int[] {0, 0, 1});
    }

    private static void told(KiteWords kites, String scene, int[] good, int[] safe) {
        for (int place = 0; place < good.length; place++) {
            due.is(scene + ": good at " + place, kites.ifTraded(place, 0), good[place]);
            due.is(scene + ": safe at " + place, kites.ifTraded(place, 1), safe[place]);
        }
    }

    private static void theText() {
        document.says("There is a text of at most 60 characters, empty at first.");
        KiteWords kites = new KiteWords();
        due.is("empty at first", kites.count(13), 0);
        for (int length = 1; length <= 60; length++) {
            due.is("typed", kites.type('a'), length);
        }
        due.is("the 61st", kites.type('a'), Due.FULL);
        due.is("sixty", kites.count(13), 60);
    }

    private static void aTextOfARow() {
        document.says("A text of a row is one or more fliers with \",\" between two: a letter from a to z and a length (a "
                + "digit from 1 to 9).");
        String[] rows = {"a1", "z9", "a1,b2", "m5,m5,m5"};
        for (String row : rows) {
            KiteWords kites = new KiteWords();
            Due.write(kites, row);
            due.is("row '" + row + "'", kites.readRow(), (row.length() + 1) / 3);
            due.is("its last letter", kites.flier(kites.count(0) - 1, 1), row.charAt(row.length() - 2));
            due.is("its last length", kites.flier(kites.count(0) - 1, 2), row.charAt(row.length() - 1) - '0');
        }
    }

    private static void aTextOfAWord() {
        document.says("A text of a word is 1 to 12 letters from a to z.");
        String[] words = {"a", "z", "az", "zzzzzzzzzzz", "abcdefghijkl"};
        for (String word : words) {
            due.is("word '" + word + "'", Due.want(new KiteWords(), word), word.length());
        }
    }

    private static void theFault() {
        document.says("The fault of the text, as a row or as a word, is the index, from 0, of the first character that is "
                + "not allowed at its place, or the length of the text if it ends too early (the empty text does).");
        String[] texts = {"", "a", "a1,", "a1,b", "A1", "aa", "a0", "a1;b1", "a1,1", "a1,b1,c1,d:", "ab", "abC", "a-b", "1",
            "abcdefghijklm"};
        int[] ofRow = {0, 1, 3, 4, 0, 1, 1, 2, 3, 10, 1, 1, 1, 0, 1};
        int[] ofWord = {0, -1, 1, 1, 0, -1, 1, 1, 1, 1, -1, 2, 1, 0, 12};
        for (int i = 0; i < texts.length; i++) {
            KiteWords kites = new KiteWords();
            Due.write(kites, texts[i]);
            due.is("row '" + texts[i] + "'", kites.readRow(), -1000100 - ofRow[i]);
            due.is("word '" + texts[i] + "'", kites.want(), ofWord[i] < 0 ? texts[i].length() : -1000100 - ofWord[i]);
        }
    }

    private static void theHistory() {
        document.says("A history of at most 4 states is kept; when one more is recorded, the oldest one is dropped; "
                + "undo() removes and restores the latest one.");
        KiteWords kites = new KiteWords();
        for (int act = 1; act <= 6; act++) {
            kites.pass(act);
            due.is("states", kites.count(12), Math.min(act, 4));
        }
        int[] minutes = {15, 10, 6, 3};
        for (int undone = 0; undone < 4; undone++) {
            due.is("undo", kites.undo(), 3 - undone);
            due.is("minutes", kites.count(1), minutes[undone]);
        }
        due.is("the older ones are dropped", kites.undo(), Due.NONE);
    }

    private static void whatIsRecorded() {
        document.says("Each call of a method that is described as an act, and returns no error and not NONE, records the "
                + "state that was before it.");
        KiteWords kites = new KiteWords();
        kites.come('a', 1);
        due.is("an act is recorded", kites.count(12), 1);
        kites.come('A', 1);
        kites.trade(0);
        due.is("errors are not", kites.count(12), 1);
        kites.pay(0, 1);
        kites.crowd(false);
        due.is("nor is NONE", kites.count(12), 1);
        kites.type('a');
        kites.keep();
        kites.clearText();
        kites.spelledIn();
        due.is("nor is a call that is no act", kites.count(12), 1);
        kites.pay(0, 9);
        kites.undo();
        due.is("the state that was before", kites.flier(0, 2), 1);
    }

    private static void theSnapshot() {
        document.says("There is one snapshot, empty at first.");
        KiteWords kites = new KiteWords();
        due.is("empty at first", kites.restore(), Due.NONE);
        kites.pass(1);
        kites.keep();
        kites.pass(1);
        kites.keep();
        kites.pass(1);
        due.is("the later one", kites.restore(), 2);
        due.is("there is no other", kites.restore(), 2);
    }

    private static void whatAStateIs() {
        document.says("A state is everything but the text, the history and the snapshot.");
        KiteWords kites = Due.withRow("b9,a1,d1,c1");
        Due.want(kites, "abcd");
        kites.planTurn(5, 1, 3);
        kites.setTangle(5);
        kites.wind(1, 5);
        kites.trade(2);
        kites.keep();
        Due.write(kites, "z1");
        String before = Picture.of(kites);
        kites.restore();
        due.holds("nothing is another", Picture.of(kites).equals(before));
        kites.pass(30);
        kites.crowd(true);
        kites.setTangle(1);
        kites.pay(3, 9);
        kites.wind(3, 4);
        kites.pass(1);
        // b at -36, a at 6, c at 16, d at -6
        due.is("c with d, by a trade", kites.trade(2), 1);
        kites.come('x', 1);
        due.holds("all is another", !Picture.of(kites).equals(before));
        kites.type('!');
        due.is("restore", kites.restore(), 1);
        due.is("the text stays", kites.clearText(), 3);
        Due.write(kites, "z1");
        due.holds("all is as it was", Picture.of(kites).equals(before));
        due.is("how long a tangle stays is", kites.setTangle(5), Due.NONE);
        due.is("the history stays", kites.undo(), 3);
        due.is("with its states", kites.count(0), 5);
        due.is("the snapshot stays", kites.restore(), 1);
        kites.come('e', 1);
        due.is("the number that comes next is a part of it", kites.flier(4, 0), 4);
    }

    private static void theOrderOfErrors() {
        document.saysNoAnswer("Errors are reported by the constants below.");
        document.says("Where several errors can apply, the order of the @return line is the order of the checks.");
        KiteWords kites = Due.withRow(TWELVE);
        Due.want(kites, "?");
        due.is("come: BAD_VALUE, FULL", kites.come('a', 0), Due.BAD_VALUE);
        due.is("readRow: fault, FULL", kites.readRow(), -1000100);
        due.is("pay: UNKNOWN, BAD_VALUE", kites.pay(12, 0), Due.UNKNOWN);
        due.is("flier: UNKNOWN, BAD_VALUE", kites.flier(12, 8), Due.UNKNOWN);
        due.is("ifTraded: UNKNOWN, BAD_VALUE", kites.ifTraded(11, 3), Due.UNKNOWN);
        Due.passTo(kites, 9999);
        due.is("trade: UNKNOWN, NOT_POSSIBLE", kites.trade(11), Due.UNKNOWN);
        due.is("pass: BAD_VALUE, FULL", kites.pass(61), Due.BAD_VALUE);
        due.is("planTurn: BAD_VALUE, NOT_POSSIBLE", kites.planTurn(9999, 4, 0), Due.BAD_VALUE);
        KiteWords planned = new KiteWords();
        for (int minute = 1; minute <= 8; minute++) {
            planned.planTurn(minute, 0, 0);
        }
        due.is("planTurn: NOT_POSSIBLE, FULL", planned.planTurn(8, 0, 0), Due.NOT_POSSIBLE);
    }

    private static void noneIsNoError() {
        document.says("NONE is no error; it is returned only if no error applies.");
        KiteWords kites = Due.withRow("a1,b1");
        due.is("pay: UNKNOWN", kites.pay(2, 1), Due.UNKNOWN);
        due.is("pay: BAD_VALUE", kites.pay(0, 10), Due.BAD_VALUE);
        due.is("pay: NONE", kites.pay(0, 1), Due.NONE);
        due.is("ifTraded: UNKNOWN", kites.ifTraded(1, 0), Due.UNKNOWN);
        due.is("ifTraded: BAD_VALUE", kites.ifTraded(0, 3), Due.BAD_VALUE);
        due.is("ifTraded: NONE", kites.ifTraded(0, 0), Due.NONE);
        due.is("turnOf: BAD_VALUE", kites.turnOf(0, 3), Due.BAD_VALUE);
        due.is("turnOf: NONE", kites.turnOf(0, 2), Due.NONE);
        due.is("tangle: BAD_VALUE", kites.tangle(0, 4), Due.BAD_VALUE);
        due.is("tangle: NONE", kites.tangle(0, 3), Due.NONE);
    }

    private static void nothingIsChanged() {
        document.says("A call that returns an error or NONE changes nothing.");
        KiteWords kites = Due.withRow("a9,b1,c1");
        kites.keep();
        kites.wind(1, 5);
        Due.write(kites, "?");
        String before = Picture.of(kites);
        int states = kites.count(12);
        int[] answers = {kites.come('a', 10), kites.readRow(), kites.go(0), kites.pay(0, 9), kites.pay(3, 1),
            kites.trade(0), kites.pass(0), kites.wind(1, 5), kites.wind(4, 5), kites.planTurn(1, 1, 6), kites.dropTurn(1),
            kites.crowd(false), kites.setTangle(0), kites.setTangle(3), kites.want()};
        int[] told = {Due.BAD_VALUE, -1000100, Due.NOT_POSSIBLE, Due.NONE, Due.UNKNOWN, Due.NOT_POSSIBLE, Due.BAD_VALUE,
            Due.NONE, Due.BAD_VALUE, Due.BAD_VALUE, Due.UNKNOWN, Due.NONE, Due.BAD_VALUE, Due.NONE, -1000100};
        for (int i = 0; i < told.length; i++) {
            due.is("answer " + i, answers[i], told[i]);
        }
        due.holds("nothing is changed", Picture.of(kites).equals(before));
        due.is("nor the history", kites.count(12), states);
        kites.restore();
        due.is("nor the snapshot", kites.count(2), 0);
    }

    private static void theConstants() {
        document.says("The constants: UNKNOWN = -1000001: There is no such place or turn.");
        due.is("UNKNOWN", KiteWords.UNKNOWN, -1000001);
        due.is("no such place", Due.withRow("a1").go(1), -1000001);
        due.is("no such turn", new KiteWords().dropTurn(1), -1000001);
        document.says("BAD_VALUE = -1000002: Another argument is out of range.");
        due.is("BAD_VALUE", KiteWords.BAD_VALUE, -1000002);
        due.is("another argument", Due.withRow("a1").pay(0, 10), -1000002);
        document.says("FULL = -1000003: There is no more room.");
        due.is("FULL", KiteWords.FULL, -1000003);
        due.is("no more room", Due.withRow(TWELVE).come('a', 1), -1000003);
        document.says("NOT_POSSIBLE = -1000004: This is not possible.");
        due.is("NOT_POSSIBLE", KiteWords.NOT_POSSIBLE, -1000004);
        KiteWords kites = Due.withRow("a9,b1");
        kites.wind(1, 5);
        due.is("not possible", kites.trade(0), -1000004);
        document.says("NONE = -1000005: There is no such thing; not an error.");
        due.is("NONE", KiteWords.NONE, -1000005);
        due.is("no such thing", kites.nextTrade(), -1000005);
    }

    /** LanguageTest compares the face itself, and the lines with the groups in the file. */
    private static void theGroupsOfTheFace() {
        document.saysNoAnswer("Ahead of the calls come, readRow, go, pay, trade the interface says: ---- fliers.");
        document.saysNoAnswer("Ahead of the calls pass, wind, planTurn, dropTurn, crowd, setTangle the interface says: "
                + "---- time, wind, settings.");
        document.saysNoAnswer("Ahead of the calls want the interface says: ---- the word.");
        document.saysNoAnswer("Ahead of the calls type, clearText the interface says: ---- texts.");
        document.saysNoAnswer("Ahead of the calls undo, keep, restore the interface says: ---- history.");
        document.saysNoAnswer("Ahead of the calls flier, reads, ifTraded, nextTrade, spelledIn, turnOf, tangle, count the "
                + "interface says: ---- what is told.");
    }

    private static void notPromised() {
        document.section("Not promised");
        document.saysNoAnswer("How the state is held inside the object is free, as are the speed of each call, the text of "
                + "toString and the behaviour of equals and hashCode.");
        document.saysNoAnswer("Use of one object from several threads at once is not promised to be safe.");
        document.saysNoAnswer("Nothing is promised beyond the answers and state changes described above, and nothing about "
                + "an object after its 512th call.");
    }
}

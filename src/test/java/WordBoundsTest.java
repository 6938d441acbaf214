/**
 * The limits that the document names under THE WORD and in promises 13 and 20 to 23: the word and the row empty and
 * full, trades that are just good or just safe, minutes up to 200. A quoted line is the sentence that is tested.
 */
public final class WordBoundsTest {
    private static final Due due = new Due("WordBoundsTest");
    private static final String TWELVE = "abcdefghijkl";
    private static final String TWELVE_BACK = "lkjihgfedcba";

    public static void main(String[] args) {
        noWord();
        lettersOfTheWord();
        wordThatIsAlready();
        textStaysBehindWant();
        readsRanks();
        readsFromBothSides();
        spelledByAllKites();
        spelledWithOneLetter();
        spelledWithTwelveLetters();
        fewestOfOtherLetters();
        fewestFromNoneToAll();
        fewestOfEqualLetters();
        ifTradedWhat();
        ifTradedWithoutFewest();
        goodAtTheEnds();
        goodThoughNotPossible();
        safeAtTheLimit();
        nextIsTheMostWestern();
        nextSkipsTheTangled();
        noNext();
        nextAtTheLastMinute();
        spelledInNone();
        spelledInByTrades();
        spelledInUpTo200();
        spelledInAtTheEndOfTime();
        spelledInChangesNothing();
        due.close();
    }

    // "There is a word that is wanted (1 to 12 letters), or none (at first)."
    private static void noWord() {
        KiteWords kites = Due.withRow("a1,b1");
        due.is("no word: letters", kites.count(6), 0);
        due.is("no word: fewest", kites.count(7), Due.NONE);
        due.is("no word: spelled", kites.count(8), 0);
        due.is("no word: good", kites.ifTraded(0, 0), Due.NONE);
        due.is("no word: safe", kites.ifTraded(0, 1), 1);
        due.is("no word: fewest behind", kites.ifTraded(0, 2), Due.NONE);
        due.is("no word: next", kites.nextTrade(), Due.NONE);
        due.is("no word: spelled in", kites.spelledIn(), Due.NONE);
        KiteWords empty = new KiteWords();
        due.is("no word, no flier: spelled", empty.count(8), 0);
        due.is("no word, no flier: fewest", empty.count(7), Due.NONE);
        due.is("no word, no flier: spelled in", empty.spelledIn(), Due.NONE);
        due.is("the empty text is no word", empty.want(), -1000100);
        due.is("nor is it the word already", empty.count(12), 0);
    }

    // "A text of a word is 1 to 12 letters from a to z."
    private static void lettersOfTheWord() {
        for (int letters = 0; letters <= 60; letters++) {
            KiteWords kites = new KiteWords();
            for (int i = 0; i < letters; i++) {
                kites.type((char) ('a' + i % 26));
            }
            int answer = letters == 0 ? -1000100 : letters <= 12 ? letters : -1000112;
            due.is("a word of " + letters, kites.want(), answer);
            due.is("letters of " + letters, kites.count(6), letters <= 12 ? letters : 0);
            due.is("history of " + letters, kites.count(12), letters >= 1 && letters <= 12 ? 1 : 0);
        }
    }

    // "NONE if it is the word already"
    private static void wordThatIsAlready() {
        KiteWords kites = new KiteWords();
        String[] words = {"a", "ab", "abc", TWELVE, "abcdefghijkm", "bbcdefghijkm", "bb", "ba", "b", "z"};
        for (String word : words) {
            due.is("want " + word, Due.want(kites, word), word.length());
            due.is("want " + word + " again", kites.want(), Due.NONE);
            due.is("and again", Due.want(kites, word), Due.NONE);
        }
        kites.undo();
        due.is("the one before is the word again", Due.want(kites, "b"), Due.NONE);
        due.is("the undone one is not", Due.want(kites, "z"), 1);
    }

    // "Makes the text, which stays, the word": what is typed behind is not in it
    private static void textStaysBehindWant() {
        KiteWords kites = Due.withRow("a1,b1");
        due.is("want", Due.want(kites, "ab"), 2);
        due.is("the text stays", kites.count(13), 2);
        kites.type('c');
        due.is("the word does not grow", kites.count(6), 2);
        kites.clearText();
        Due.write(kites, "xy");
        due.is("nor change", kites.count(8), 1);
        due.is("want again", kites.want(), 2);
        due.is("another word", kites.count(8), 0);
    }

    // "BAD_VALUE if rank is negative; NONE if there are not so many"
    private static void readsRanks() {
        for (int fliers = 0; fliers <= 12; fliers++) {
            KiteWords kites = fliers == 0 ? new KiteWords() : Due.withRow(Due.fliers(fliers));
            due.is("kites", kites.count(5), fliers);
            for (int rank = 0; rank <= 13; rank++) {
                due.is("of " + fliers + ", reads(" + rank + ")", kites.reads(rank), rank < fliers ? 'a' + rank : Due.NONE);
            }
            due.is("of " + fliers + ", reads(-1)", kites.reads(-1), Due.BAD_VALUE);
            due.is("of " + fliers + ", reads(least)", kites.reads(Integer.MIN_VALUE), Due.BAD_VALUE);
            due.is("of " + fliers + ", reads(greatest)", kites.reads(Integer.MAX_VALUE), Due.NONE);
        }
        KiteWords tangled = Due.withRow("a9,b1,c1");
        tangled.wind(1, 5);
        due.is("only one is left to read", tangled.reads(0), 'c');
        due.is("the tangled are not so many", tangled.reads(1), Due.NONE);
    }

    // "from the south the lowest first, from the north the greatest first"
    private static void readsFromBothSides() {
        KiteWords kites = new KiteWords();
        kites.wind(3, 5);
        Due.write(kites, "a1,b9,c1");
        kites.readRow();
        // at -5, -35, 15
        due.holds("from the south", Due.read(kites).equals("bac"));
        due.is("crowd(true)", kites.crowd(true), 3);
        due.holds("from the north", Due.read(kites).equals("cab"));
        KiteWords one = Due.withRow("a1");
        one.crowd(true);
        due.is("one, from the north", one.reads(0), 'a');
        KiteWords full = Due.withRow(Due.fliers(12));
        full.crowd(true);
        due.holds("twelve, from the north", Due.read(full).equals(TWELVE_BACK));
    }

    // "It is spelled if the kites that can be read, in their order, are just its letters, and all kites can be read."
    private static void spelledByAllKites() {
        KiteWords kites = Due.withRow("a1,b1,c1");
        String[] words = {"abc", "ab", "abcd", "bc", "abd", "xbc", "axc", "acb", "cba", "a"};
        for (String word : words) {
            Due.want(kites, word);
            due.is("abc spells " + word, kites.count(8), word.equals("abc") ? 1 : 0);
        }
        KiteWords hidden = new KiteWords();
        hidden.wind(1, 5);
        Due.write(hidden, "a3,b1,c1");
        hidden.readRow();
        Due.want(hidden, "c");
        due.is("the one that is read is not all", hidden.count(8), 0);
        Due.want(hidden, "abc");
        due.is("nor are the hidden read", hidden.count(8), 0);
        due.is("though no trade is needed", hidden.count(7), 0);
        KiteWords tangled = Due.withRow("a9,b1,c1");
        tangled.wind(1, 5);
        Due.want(tangled, "c");
        due.is("the tangled are not read", tangled.count(8), 0);
        Due.want(tangled, "cab");
        tangled.pass(2);
        due.is("in their last minute", tangled.count(8), 0);
        Due.want(tangled, "bca");
        tangled.pass(1);
        // a at 45, b at 15, c at 25
        due.is("free", tangled.count(8), 1);
    }

    private static void spelledWithOneLetter() {
        KiteWords kites = new KiteWords();
        due.is("want a", Due.want(kites, "a"), 1);
        due.is("an empty row spells nothing", kites.count(8), 0);
        due.is("fewest of an empty row", kites.count(7), Due.NONE);
        due.is("spelled in, of an empty row", kites.spelledIn(), Due.NONE);
        kites.come('a', 1);
        due.is("a spells a", kites.count(8), 1);
        due.is("fewest", kites.count(7), 0);
        due.is("spelled in", kites.spelledIn(), 0);
        due.is("no next trade", kites.nextTrade(), Due.NONE);
        kites.come('a', 1);
        due.is("aa does not", kites.count(8), 0);
        kites.go(0);
        kites.go(0);
        due.is("nobody does", kites.count(8), 0);
    }

    private static void spelledWithTwelveLetters() {
        KiteWords kites = Due.withRow(Due.fliers(12));
        due.is("want", Due.want(kites, TWELVE), 12);
        due.is("twelve spell", kites.count(8), 1);
        due.is("fewest", kites.count(7), 0);
        Due.want(kites, "abcdefghijkk");
        due.is("another last letter", kites.count(8), 0);
        due.is("other letters", kites.count(7), Due.NONE);
        Due.want(kites, "abcdefghijk");
        due.is("eleven of them", kites.count(8), 0);
        Due.want(kites, TWELVE_BACK);
        kites.crowd(true);
        due.is("back from the north", kites.count(8), 1);
    }

    // "NONE if the letters of both are not the same"
    private static void fewestOfOtherLetters() {
        String[][] cases = {{"a1", "b"}, {"a1", "aa"}, {"a1,a1", "a"}, {"a1,a1,b1", "abb"}, {"a1,b1,b1", "aab"},
            {"a1,b1", "ac"}, {"a1,b1", "cb"}, {"a1,b1,c1", "ab"}, {"a1,b1", "abc"}};
        for (String[] c : cases) {
            KiteWords kites = Due.withRow(c[0]);
            Due.want(kites, c[1]);
            for (int side = 0; side < 2; side++) {
                due.is(c[0] + " to " + c[1], kites.count(7), Due.NONE);
                due.is(c[0] + " to " + c[1] + ": next", kites.nextTrade(), Due.NONE);
                due.is(c[0] + " to " + c[1] + ": spelled in", kites.spelledIn(), Due.NONE);
                kites.crowd(true);
            }
        }
    }

    // "the count is how many pairs of fliers stand the other way round than they should": 0 to 66
    private static void fewestFromNoneToAll() {
        KiteWords kites = Due.withRow(Due.fliers(12));
        Due.want(kites, TWELVE_BACK);
        due.is("all pairs", kites.count(7), 66);
        due.is("one less", kites.ifTraded(0, 2), 65);
        due.is("at the last place, too", kites.ifTraded(10, 2), 65);
        kites.crowd(true);
        due.is("no pair", kites.count(7), 0);
        due.is("one more", kites.ifTraded(0, 2), 1);
        due.is("at the last place, too", kites.ifTraded(10, 2), 1);
        Due.want(kites, TWELVE);
        due.is("all pairs from the north", kites.count(7), 66);
        kites.crowd(false);
        due.is("no pair from the south", kites.count(7), 0);
    }

    // "the first letter a of the word is that of the first flier with an a in this row, and so on"
    private static void fewestOfEqualLetters() {
        String[][] cases = {{"a1,a1,a1,a1,a1,a1,a1,a1,a1,a1,a1,a1", "aaaaaaaaaaaa", "0", "0"},
            {"a1,b1,a1,b1,a1,b1,a1,b1,a1,b1,a1,b1", "bbbbbbaaaaaa", "21", "15"},
            {"a1,a1,b1", "aba", "1", "1"}, {"b1,a1,a1", "aab", "2", "0"}, {"a1,b1,a1", "baa", "1", "1"}};
        for (String[] c : cases) {
            KiteWords kites = Due.withRow(c[0]);
            Due.want(kites, c[1]);
            due.is(c[0] + " to " + c[1], kites.count(7), Integer.parseInt(c[2]));
            kites.crowd(true);
            due.is(c[0] + " to " + c[1] + " from the north", kites.count(7), Integer.parseInt(c[3]));
        }
    }

    // ifTraded: what from 0 to 2
    private static void ifTradedWhat() {
        KiteWords kites = Due.withRow("b1,a1");
        Due.want(kites, "ab");
        int[] told = {1, 1, 0};
        for (int what = -20; what <= 20; what++) {
            boolean isKnown = what >= 0 && what <= 2;
            due.is("ifTraded(0, " + what + ")", kites.ifTraded(0, what), isKnown ? told[what] : Due.BAD_VALUE);
        }
        for (int what : new int[] {Integer.MIN_VALUE, Integer.MAX_VALUE, 256, 65536, 1 << 31}) {
            due.is("ifTraded(0, " + what + ")", kites.ifTraded(0, what), Due.BAD_VALUE);
        }
    }

    // "NONE for 0 and 2 if there is no word, or the fewest trades are NONE"
    private static void ifTradedWithoutFewest() {
        KiteWords kites = Due.withRow("a1,b1");
        for (int times = 0; times < 2; times++) {
            due.is("good", kites.ifTraded(0, 0), Due.NONE);
            due.is("safe is told", kites.ifTraded(0, 1), 1);
            due.is("fewest", kites.ifTraded(0, 2), Due.NONE);
            Due.want(kites, "ax");
        }
        kites.pay(0, 9);
        kites.wind(1, 5);
        due.is("not safe is told, too", kites.ifTraded(0, 1), 0);
    }

    // "A trade is good if it makes this count less"
    private static void goodAtTheEnds() {
        KiteWords kites = Due.withRow("a1,a1,b1,b1");
        Due.want(kites, "abab");
        int[] good = {0, 1, 0};
        int[] behind = {1, 0, 1};
        for (int place = 0; place < 3; place++) {
            due.is("good at " + place, kites.ifTraded(place, 0), good[place]);
            due.is("behind " + place, kites.ifTraded(place, 2), behind[place]);
        }
        kites.crowd(true);
        // it is read as bbaa: three trades to abab
        due.is("from the north", kites.count(7), 3);
        for (int place = 0; place < 3; place++) {
            due.is("good from the north at " + place, kites.ifTraded(place, 0), place == 1 ? 1 : 0);
        }
    }

    // "(whether it is possible now or not)"
    private static void goodThoughNotPossible() {
        KiteWords kites = Due.withRow("b9,a1");
        Due.want(kites, "ab");
        kites.wind(1, 5);
        due.is("tangled", kites.trade(0), Due.NOT_POSSIBLE);
        due.is("good", kites.ifTraded(0, 0), 1);
        due.is("fewest behind it", kites.ifTraded(0, 2), 0);
        due.is("not safe", kites.ifTraded(0, 1), 0);
        Due.passTo(kites, 9999);
        due.is("too late", kites.trade(0), Due.NOT_POSSIBLE);
        due.is("good still", kites.ifTraded(0, 0), 1);
    }

    // "safe if neither flier is tangled, and it would tangle nobody (the trade itself, not the wind behind it)"
    private static void safeAtTheLimit() {
        KiteWords kites = Due.withRow("a1,b3");
        kites.wind(1, 4);
        due.is("eight apart by the wind", kites.ifTraded(0, 1), 1);
        kites.pay(1, 4);
        due.is("twelve", kites.ifTraded(0, 1), 0);
        kites.wind(1, 3);
        due.is("nine", kites.ifTraded(0, 1), 1);
        kites.pay(1, 3);
        kites.wind(1, 5);
        due.is("ten", kites.ifTraded(0, 1), 0);
        KiteWords turned = Due.withRow("a1,b9");
        turned.planTurn(1, 1, 5);
        due.is("the wind behind it does not count", turned.ifTraded(0, 1), 1);
        KiteWords beside = Due.withRow("a1,b9,c1,d1");
        beside.wind(1, 5);
        due.is("the eastern is tangled", beside.ifTraded(0, 1), 0);
        due.is("both are", beside.ifTraded(1, 1), 0);
        due.is("the western is", beside.ifTraded(2, 1), 0);
        beside.pass(2);
        due.is("in their last minute", beside.ifTraded(2, 1), 0);
        beside.pass(1);
        due.is("free", beside.ifTraded(2, 1), 1);
        due.is("free, but it would tangle", beside.ifTraded(1, 1), 0);
    }

    // "the most western one that is good and safe"
    private static void nextIsTheMostWestern() {
        KiteWords kites = Due.withRow(Due.fliers(12));
        Due.want(kites, TWELVE_BACK);
        due.is("the first place", kites.nextTrade(), 0);
        Due.want(kites, "abcdefghijlk");
        due.is("the last place", kites.nextTrade(), 10);
        Due.want(kites, "abcdefgihjlk");
        due.is("the western one of two", kites.nextTrade(), 7);
        kites.crowd(true);
        Due.want(kites, "lkjihgfecdab");
        due.is("from the north the western one, too", kites.nextTrade(), 0);
        kites.wind(1, 5);
        kites.pay(0, 3);
        due.is("it is not safe any more", kites.ifTraded(0, 1), 0);
        due.is("the next one that is", kites.nextTrade(), 2);
    }

    private static void nextSkipsTheTangled() {
        KiteWords kites = Due.withRow("e1,d9,c1,b1,a1");
        Due.want(kites, "abcde");
        kites.wind(1, 5);
        due.is("d with c", kites.flier(1, 4), 2);
        due.is("the first that no tangled one is in", kites.nextTrade(), 3);
        kites.pass(3);
        due.is("e and d are not safe, nor d and c", kites.nextTrade(), 2);
    }

    // "NONE if there is none"
    private static void noNext() {
        KiteWords kites = new KiteWords();
        due.is("no word, no flier", kites.nextTrade(), Due.NONE);
        Due.want(kites, "a");
        due.is("no flier", kites.nextTrade(), Due.NONE);
        kites.come('a', 1);
        due.is("one flier", kites.nextTrade(), Due.NONE);
        kites.come('b', 9);
        Due.want(kites, "ab");
        due.is("none is good", kites.nextTrade(), Due.NONE);
        Due.want(kites, "ba");
        due.is("one is", kites.nextTrade(), 0);
        kites.wind(1, 5);
        due.is("none is safe", kites.nextTrade(), Due.NONE);
    }

    // "(whatever the count of minutes is)"
    private static void nextAtTheLastMinute() {
        KiteWords kites = Due.withRow("b1,a1");
        Due.want(kites, "ab");
        Due.passTo(kites, 9999);
        due.is("at 9999", kites.nextTrade(), 0);
        due.is("it is not possible", kites.trade(0), Due.NOT_POSSIBLE);
    }

    // "NONE if it is not by then, or there is no word"
    private static void spelledInNone() {
        KiteWords kites = Due.withRow("a9,b1");
        due.is("no word", kites.spelledIn(), Due.NONE);
        Due.want(kites, "ac");
        due.is("other letters", kites.spelledIn(), Due.NONE);
        Due.want(kites, "ba");
        kites.wind(1, 1);
        due.is("one trade", kites.spelledIn(), 1);
        kites.wind(1, 5);
        due.is("crossed by the wind, once they are free", kites.spelledIn(), 3);
        Due.want(kites, "ab");
        due.is("no trade to do, and never read so", kites.spelledIn(), Due.NONE);
        kites.pass(3);
        due.is("nor when they are free", kites.spelledIn(), Due.NONE);
    }

    // "if in each minute the next trade is done": a trade takes a minute
    private static void spelledInByTrades() {
        KiteWords kites = Due.withRow(Due.fliers(12));
        Due.want(kites, TWELVE);
        due.is("0 if it is spelled", kites.spelledIn(), 0);
        Due.want(kites, "bacdefghijkl");
        due.is("one", kites.spelledIn(), 1);
        Due.want(kites, TWELVE_BACK);
        due.is("sixty-six", kites.spelledIn(), 66);
        int minutes = 66;
        for (int place = kites.nextTrade(); place != Due.NONE; place = kites.nextTrade()) {
            kites.trade(place);
            minutes--;
            due.is("then", kites.spelledIn(), minutes);
        }
        due.is("it is spelled", kites.count(8), 1);
        due.is("in so many", kites.count(1), 66);
    }

    // "up to 200"
    private static void spelledInUpTo200() {
        for (int turn = 197; turn <= 201; turn++) {
            KiteWords traded = Due.withRow("a1,b9");
            Due.want(traded, "ba");
            traded.wind(1, 5);
            traded.planTurn(turn, 0, 1);
            due.is("a trade behind the turn of " + turn, traded.spelledIn(), turn < 200 ? turn + 1 : Due.NONE);
            KiteWords waits = Due.withRow("a9,b1");
            waits.setTangle(1);
            waits.wind(1, 5);
            Due.want(waits, "ab");
            waits.planTurn(turn, 0, 1);
            due.is("tangled by the turn of " + turn, waits.spelledIn(), turn < 200 ? turn + 1 : Due.NONE);
            waits.pass(1);
            due.is("a minute later, of " + turn, waits.spelledIn(), turn < 201 ? turn : Due.NONE);
        }
    }

    // "up to 200 (whatever the count of minutes is)"
    private static void spelledInAtTheEndOfTime() {
        KiteWords kites = Due.withRow("a1,b1,c1");
        Due.want(kites, "cba");
        Due.passTo(kites, 9997);
        due.is("just in time", kites.spelledIn(), 3);
        kites.pass(2);
        due.is("beyond the end", kites.spelledIn(), 3);
        due.is("the count stays", kites.count(1), 9999);
        KiteWords tangled = Due.withRow("a9,b1");
        Due.want(tangled, "ba");
        Due.passTo(tangled, 9999);
        tangled.wind(1, 2);
        due.is("it waits beyond the end", tangled.spelledIn(), 3);
        int[][] turns = {{9798, Due.NONE}, {9799, Due.NONE}, {9800, 200}, {9801, 199}, {9998, 2}};
        for (int[] c : turns) {
            KiteWords late = Due.withRow("a1,b9");
            Due.want(late, "ba");
            late.wind(1, 5);
            late.planTurn(9999, 0, 1);
            Due.passTo(late, c[0]);
            due.is("at " + c[0], late.spelledIn(), c[1]);
        }
    }

    private static void spelledInChangesNothing() {
        KiteWords kites = Due.withRow("c1,b9,a1");
        Due.want(kites, "abc");
        kites.planTurn(2, 1, 5);
        kites.planTurn(4, 0, 0);
        kites.keep();
        String before = Picture.of(kites);
        // Trades at 0 and 1, tangled by the turn of 2, free at 5, and a last trade.
        due.is("spelled in", kites.spelledIn(), 6);
        due.is("spelled in, again", kites.spelledIn(), 6);
        due.holds("nothing changed", Picture.of(kites).equals(before));
        due.is("nothing is recorded", kites.count(12), 4);
        kites.undo();
        kites.restore();
        due.holds("the snapshot is as it was", Picture.of(kites).equals(before));
    }
}

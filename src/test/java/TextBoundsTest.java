/**
 * The limits that the document names under TEXTS and in promises 3 and 13 to 15: the text empty and full, and the fault
 * at each place where a character can be wrong. A quoted line is the sentence that is tested.
 */
public final class TextBoundsTest {
    private static final Due due = new Due("TextBoundsTest");
    private static final String ROW = "a1,z9,m5,b2,c3,d4,e6,f7,g8,h1,i9,j1,k2,l3,n4,o5,p6,q7,r8,s9,";

    public static void main(String[] args) {
        emptyText();
        sixtyCharacters();
        anyCharacter();
        clearTextOfAnyLength();
        rowFaultOfEachSign();
        rowFaultOfEachPlace();
        rowThatEndsTooEarly();
        firstFaultOfTheRow();
        rowsOfAllLettersAndLengths();
        wordFaultOfEachSign();
        wordFaultOfEachPlace();
        firstFaultOfTheWord();
        textOutlivesTheState();
        due.close();
    }

    // "There is a text of at most 60 characters, empty at first."
    private static void emptyText() {
        KiteWords kites = new KiteWords();
        due.is("empty: length", kites.count(13), 0);
        due.is("empty: readRow()", kites.readRow(), -1000100);
        due.is("empty: want()", kites.want(), -1000100);
        due.is("empty: clearText()", kites.clearText(), 0);
        due.is("empty: clearText() again", kites.clearText(), 0);
        due.is("empty: history", kites.count(12), 0);
        due.is("empty: type('a')", kites.type('a'), 1);
    }

    // "FULL if it has 60 characters"
    private static void sixtyCharacters() {
        KiteWords kites = new KiteWords();
        for (int length = 1; length <= 60; length++) {
            due.is("type " + length, kites.type('a'), length);
            due.is("length", kites.count(13), length);
        }
        for (int times = 0; times < 3; times++) {
            due.is("one more", kites.type('b'), Due.FULL);
            due.is("length", kites.count(13), 60);
        }
        due.is("clearText()", kites.clearText(), 60);
        due.is("room again", kites.type('b'), 1);
    }

    // "character: any character"
    private static void anyCharacter() {
        KiteWords kites = new KiteWords();
        int length = 0;
        for (int sign = 0; sign <= 65535; sign++) {
            if (length == 60) {
                kites = new KiteWords();
                length = 0;
            }
            length++;
            due.is("type(" + sign + ")", kites.type((char) sign), length);
        }
    }

    // "Returns the length that it had."
    private static void clearTextOfAnyLength() {
        for (int length = 0; length <= 60; length++) {
            KiteWords kites = new KiteWords();
            for (int i = 0; i < length; i++) {
                kites.type('a');
            }
            due.is("clearText() of " + length, kites.clearText(), length);
            due.is("empty then", kites.count(13), 0);
            due.is("clearText() of none", kites.clearText(), 0);
            kites.type('q');
            due.is("nothing is behind what is typed then", kites.readRow(), -1000101);
            due.is("a word of what is typed then", kites.want(), 1);
        }
    }

    // "a letter from a to z and a length (a digit from 1 to 9)"; "," between two
    private static void rowFaultOfEachSign() {
        for (int sign = 0; sign < 400; sign++) {
            boolean isLetter = sign >= 'a' && sign <= 'z';
            boolean isDigit = sign >= '1' && sign <= '9';
            due.is("row '" + sign + "'", readRow(sign, ""), isLetter ? -1000101 : -1000100);
            due.is("row a'" + sign + "'", readRow(sign, "a"), isDigit ? 1 : -1000101);
            due.is("row a1'" + sign + "'", readRow(sign, "a1"), sign == ',' ? -1000103 : -1000102);
            due.is("row a1,'" + sign + "'", readRow(sign, "a1,"), isLetter ? -1000104 : -1000103);
            due.is("row a1,b'" + sign + "'", readRow(sign, "a1,b"), isDigit ? 2 : -1000104);
        }
        int[] wide = {256 + 'a', 256 + '1', 256 + ',', 65280 + 'a', 65280 + '1', 65280 + ',', 65535};
        for (int sign : wide) {
            due.is("row '" + sign + "'", readRow(sign, ""), -1000100);
            due.is("row a'" + sign + "'", readRow(sign, "a"), -1000101);
            due.is("row a1'" + sign + "'", readRow(sign, "a1"), -1000102);
        }
    }

    private static int readRow(int sign, String ahead) {
        KiteWords kites = new KiteWords();
        Due.write(kites, ahead + (char) sign);
        return kites.readRow();
    }

    // "The fault of the text ... is the index, from 0, of the first character that is not allowed at its place"
    private static void rowFaultOfEachPlace() {
        for (int place = 0; place < 60; place++) {
            KiteWords kites = new KiteWords();
            Due.write(kites, ROW.substring(0, place) + "?" + ROW.substring(place + 1));
            due.is("a fault at " + place, kites.readRow(), -1000100 - place);
            due.is("nobody came", kites.count(0), 0);
        }
    }

    // "or the length of the text if it ends too early (the empty text does)"
    private static void rowThatEndsTooEarly() {
        for (int length = 0; length <= 60; length++) {
            KiteWords kites = new KiteWords();
            Due.write(kites, ROW.substring(0, length));
            int fliers = (length + 1) / 3;
            int whole = fliers <= 12 ? fliers : Due.FULL;
            due.is("a row of the length " + length, kites.readRow(), length % 3 == 2 ? whole : -1000100 - length);
        }
    }

    private static void firstFaultOfTheRow() {
        String[] texts = {"??", "a??", "a1??", "a1,?0", "a1,,", "1a,", "a1;b1;", "aa", "a11", ",a1", "a1,b1,,"};
        int[] faults = {0, 1, 2, 3, 3, 0, 2, 1, 2, 0, 6};
        for (int i = 0; i < texts.length; i++) {
            KiteWords kites = new KiteWords();
            Due.write(kites, texts[i]);
            due.is("row '" + texts[i] + "'", kites.readRow(), -1000100 - faults[i]);
        }
    }

    private static void rowsOfAllLettersAndLengths() {
        for (char letter = 'a'; letter <= 'z'; letter++) {
            for (int length = 1; length <= 9; length++) {
                KiteWords kites = new KiteWords();
                Due.write(kites, "a1," + letter + length);
                due.is("row a1," + letter + length, kites.readRow(), 2);
                due.is("its letter", kites.flier(1, 1), letter);
                due.is("its length", kites.flier(1, 2), length);
            }
        }
    }

    // "A text of a word is 1 to 12 letters from a to z."
    private static void wordFaultOfEachSign() {
        for (int sign = 0; sign < 400; sign++) {
            boolean isLetter = sign >= 'a' && sign <= 'z';
            due.is("word '" + sign + "'", want("" + (char) sign), isLetter ? 1 : -1000100);
            due.is("word ab'" + sign + "'", want("ab" + (char) sign), isLetter ? 3 : -1000102);
            due.is("word of eleven and '" + sign + "'", want("abcdefghijk" + (char) sign), isLetter ? 12 : -1000111);
            due.is("word of twelve and '" + sign + "'", want("abcdefghijkl" + (char) sign), -1000112);
        }
        due.is("word 256 + a", want("" + (char) (256 + 'a')), -1000100);
        due.is("word 65280 + a", want("" + (char) (65280 + 'a')), -1000100);
    }

    private static int want(String word) {
        return Due.want(new KiteWords(), word);
    }

    private static void wordFaultOfEachPlace() {
        StringBuilder letters = new StringBuilder();
        for (int i = 0; i < 60; i++) {
            letters.append((char) ('a' + i % 26));
        }
        for (int place = 0; place < 60; place++) {
            String text = letters.substring(0, place) + "," + letters.substring(place + 1);
            due.is("a fault at " + place + " of sixty", want(text), -1000100 - Math.min(place, 12));
            due.is("a fault at the end, " + place, want(text.substring(0, place + 1)), -1000100 - Math.min(place, 12));
        }
    }

    private static void firstFaultOfTheWord() {
        String[] texts = {"??", "a?b?", "A", "aB", "a b", "a1", "a,b", "1"};
        int[] faults = {0, 1, 0, 1, 1, 1, 1, 0};
        for (int i = 0; i < texts.length; i++) {
            due.is("word '" + texts[i] + "'", want(texts[i]), -1000100 - faults[i]);
        }
    }

    // "A state is everything but the text"
    private static void textOutlivesTheState() {
        KiteWords kites = new KiteWords();
        kites.keep();
        Due.write(kites, "a1");
        kites.readRow();
        kites.undo();
        due.is("behind undo", kites.readRow(), 1);
        kites.restore();
        due.is("behind restore", kites.count(13), 2);
        due.is("to read again", kites.readRow(), 1);
        kites.clearText();
        kites.undo();
        due.is("undo brings no text back", kites.count(13), 0);
        kites.restore();
        due.is("nor does restore", kites.count(13), 0);
    }
}

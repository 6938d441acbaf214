/** Counts the answers of calls that are not the ones that are due. */
final class Due {
    static final int UNKNOWN = -1000001;
    static final int BAD_VALUE = -1000002;
    static final int FULL = -1000003;
    static final int NOT_POSSIBLE = -1000004;
    static final int NONE = -1000005;

    private final String test;
    private int asked = 0;
    private int wrong = 0;

    Due(String test) {
        this.test = test;
    }

    void is(String call, long got, long due) {
        asked++;
        if (got != due) {
            wrong++;
            System.out.println(test + ": " + call + " answered " + got + ", due is " + due);
        }
    }

    void holds(String what, boolean holds) {
        is(what, holds ? 1 : 0, 1);
    }

    /** The letters that the crowd reads, in their order. */
    static String read(KiteWords kites) {
        StringBuilder letters = new StringBuilder();
        for (int rank = 0; kites.reads(rank) != NONE; rank++) {
            letters.append((char) kites.reads(rank));
        }
        return letters.toString();
    }

    /** The letters of the row from the west to the east. */
    static String row(KiteWords kites) {
        StringBuilder letters = new StringBuilder();
        for (int place = 0; place < kites.count(0); place++) {
            letters.append((char) kites.flier(place, 1));
        }
        return letters.toString();
    }

    static void write(KiteWords kites, String text) {
        kites.clearText();
        for (int i = 0; i < text.length(); i++) {
            kites.type(text.charAt(i));
        }
    }

    static KiteWords withRow(String fliers) {
        KiteWords kites = new KiteWords();
        write(kites, fliers);
        kites.readRow();
        return kites;
    }

    static int want(KiteWords kites, String word) {
        write(kites, word);
        return kites.want();
    }

    /** A row of so many fliers: a, b, c and on, each with a line of the length 1. */
    static String fliers(int count) {
        StringBuilder fliers = new StringBuilder();
        for (int i = 0; i < count; i++) {
            fliers.append(i > 0 ? "," : "").append((char) ('a' + i)).append('1');
        }
        return fliers.toString();
    }

    /** Makes so many fliers come and go again; the row stays as long as it is. */
    static void comeAndGo(KiteWords kites, int times) {
        for (int i = 0; i < times; i++) {
            kites.go(kites.come('x', 1));
        }
    }

    /** The fewest calls that it takes: the document promises 512 for an object. */
    static void passTo(KiteWords kites, int minute) {
        for (int left = minute - kites.count(1); left > 0; left -= 60) {
            kites.pass(Math.min(60, left));
        }
    }

    void close() {
        System.out.println(test + ": " + asked + " answers, " + wrong + " not as due");
        if (wrong != 0) {
            System.exit(1);
        }
    }
}

/** Counts the answers of calls that are not the ones that are due. */
final class Due {
    static final int UNKNOWN = -1000001;
    static final int BAD_VALUE = -1000002;
    static final int FULL = -1000003;
    static final int NOT_POSSIBLE = -1000004;
    static final int NONE = -1000005;

    private final String test;
    private int asked = 0;
    private int wrong = 0;

    Due(String test) {
        this.test = test;
    }

    void is(String call, long got, long due) {
        asked++;
        if (got != due) {
            wrong++;
            System.out.println(test + ": " + call + " answered " + got + ", due is " + due);
        }
    }

    void holds(String what, boolean holds) {
        is(what, holds ? 1 : 0, 1);
    }

    /** The letters that the crowd reads, in their order. */
    static String read(KiteWords kites) {
        StringBuilder letters = new StringBuilder();
        for (int rank = 0; kites.reads(rank) != NONE; rank++) {
            letters.append((char) kites.reads(rank));
        }
        return letters.toString();
    }

    /** The letters of the row from the west to the east. */
    static String row(KiteWords kites) {
        StringBuilder letters = new StringBuilder();
        for (int place = 0; place < kites.count(0); place++) {
            letters.append((char) kites.flier(place, 1));
        }
        return letters.toString();
    }

    static void write(KiteWords kites, String text) {
        kites.clearText();
        for (int i = 0; i < text.length(); i++) {
            kites.type(text.charAt(i));
        }
    }

    static KiteWords withRow(String fliers) {
        KiteWords kites = new KiteWords();
        write(kites, fliers);
        kites.readRow();
        return kites;
    }

    static int want(KiteWords kites, String word) {
        write(kites, word);
        return kites.want();
    }

    static void passTo(KiteWords kites, int minute) {
        while (kites.count(1) < minute) {
            kites.pass(Math.min(60, minute - kites.count(1)));
        }
    }

    void close() {
        System.out.println(test + ": " + asked + " answers, " + wrong + " not as due");
        if (wrong != 0) {
            System.exit(1);
        }
    }
}

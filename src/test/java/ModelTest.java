import java.util.Random;

/** Long runs of calls of every kind, each answer beside that of the model. */
public final class ModelTest {
    private static final int RUNS = 600;
    private static final int CALLS = 300;

    private final Due due;
    private final Random random;
    private final String run;
    private final KiteWords kites = new KiteWords();
    private final Model model = new Model();
    // How long the lines of this run are, and how many letters it knows: few make equal ones.
    private final int longest;
    private final int letters;

    private ModelTest(Due due, int number) {
        this.due = due;
        this.run = "run " + number + ": ";
        random = new Random(number);
        longest = 1 + random.nextInt(9);
        letters = 1 + random.nextInt(6);
    }

    public static void main(String[] args) {
        Due due = new Due("ModelTest");
        for (int number = 0; number < RUNS; number++) {
            new ModelTest(due, number).play();
        }
        due.close();
    }

    private void play() {
        // Some runs are played at the end of the time, some with nearly all numbers of fliers used.
        if (random.nextInt(10) == 0) {
            int end = 9850 + random.nextInt(150);
            for (int minutes = kites.count(1); minutes < end; minutes = kites.count(1)) {
                pass(Math.min(60, end - minutes));
            }
        } else if (random.nextInt(10) == 0) {
            for (int i = 0; i < 85; i++) {
                come();
                go(0);
            }
        }
        for (int call = 0; call < CALLS; call++) {
            act();
            tell();
            if (call % 30 == 29) {
                tellAll();
            }
        }
    }

    private int oneOf(int bound) {
        return random.nextInt(bound);
    }

    /** Mostly 0 to bound - 1, now and then a little or far beside it. */
    private int about(int bound) {
        int dice = oneOf(40);
        if (dice == 0) {
            return bound;
        }
        if (dice == 1) {
            return -1;
        }
        if (dice == 2) {
            return random.nextInt();
        }
        return bound <= 0 ? 0 : oneOf(bound);
    }

    private void act() {
        switch (oneOf(24)) {
            case 0: case 1: come(); break;
            case 2: row(); break;
            case 3: if (kites.count(0) > 3 || oneOf(4) == 0) { go(about(kites.count(0))); } break;
            case 4: pay(about(kites.count(0)), about(10)); break;
            case 5: case 6: case 7: case 8: trade(about(kites.count(0))); break;
            case 9: case 10: tradeNext(); break;
            case 11: case 12: pass(oneOf(15) == 0 ? about(62) : 1 + oneOf(3)); break;
            case 13: case 14: wind(about(4), about(6)); break;
            case 15: case 16: planTurn(); break;
            case 17: dropTurn(); break;
            case 18: crowd(oneOf(2) == 0); break;
            case 19: setTangle(about(10)); break;
            case 20: case 21: word(); break;
            case 22: history(); break;
            default: type(); break;
        }
    }

    private char letter() {
        return (char) (oneOf(40) == 0 ? oneOf(200) : 'a' + oneOf(letters));
    }

    private int length() {
        return oneOf(40) == 0 ? about(11) : 1 + oneOf(longest);
    }

    private void come() {
        char letter = letter();
        int length = length();
        due.is(run + "come(" + letter + ", " + length + ")", kites.come(letter, length), model.come(letter, length));
    }

    private void write(String text) {
        due.is(run + "clearText()", kites.clearText(), model.clearText());
        for (int i = 0; i < text.length(); i++) {
            type(text.charAt(i));
        }
    }

    private void type(char character) {
        due.is(run + "type(" + (int) character + ")", kites.type(character), model.type(character));
    }

    private void type() {
        for (int i = oneOf(5) == 0 ? 70 : 3; i > 0; i--) {
            type(oneOf(3) == 0 ? (char) oneOf(300) : "abz,19`{0:".charAt(oneOf(10)));
        }
    }

    private void row() {
        StringBuilder text = new StringBuilder();
        int fliers = 1 + oneOf(oneOf(5) == 0 ? 14 : 3);
        for (int i = 0; i < fliers; i++) {
            text.append(i > 0 ? "," : "").append((char) ('a' + oneOf(letters))).append(1 + oneOf(longest));
        }
        if (oneOf(4) == 0) {
            text.setCharAt(oneOf(text.length()), "a1,z9AZ0:`{".charAt(oneOf(11)));
        } else if (oneOf(6) == 0) {
            text.setLength(oneOf(text.length()));
        }
        write(text.toString());
        due.is(run + "readRow() of " + text, kites.readRow(), model.readRow());
    }

    private void word() {
        StringBuilder text = new StringBuilder(model.calm());
        for (int i = text.length() - 1; i > 0; i--) {
            int other = oneOf(4) == 0 ? oneOf(i + 1) : i;
            char held = text.charAt(i);
            text.setCharAt(i, text.charAt(other));
            text.setCharAt(other, held);
        }
        if (oneOf(5) == 0) {
            text.append(letter());
        }
        if (text.length() > 0 && oneOf(8) == 0) {
            text.setCharAt(oneOf(text.length()), letter());
        }
        write(text.toString());
        due.is(run + "want() of " + text, kites.want(), model.want());
    }

    private void go(int place) {
        due.is(run + "go(" + place + ")", kites.go(place), model.go(place));
    }

    private void pay(int place, int length) {
        due.is(run + "pay(" + place + ", " + length + ")", kites.pay(place, length), model.pay(place, length));
    }

    private void trade(int place) {
        due.is(run + "trade(" + place + ")", kites.trade(place), model.trade(place));
    }

    private void tradeNext() {
        int next = model.nextTrade();
        due.is(run + "nextTrade()", kites.nextTrade(), next);
        trade(next);
    }

    private void pass(int minutes) {
        due.is(run + "pass(" + minutes + ")", kites.pass(minutes), model.pass(minutes));
    }

    private void wind(int side, int strength) {
        due.is(run + "wind(" + side + ", " + strength + ")", kites.wind(side, strength), model.wind(side, strength));
    }

    private void planTurn() {
        int minute = oneOf(15) == 0 ? about(10001) : kites.count(1) + oneOf(12);
        int side = about(4);
        int strength = about(6);
        due.is(run + "planTurn(" + minute + ", " + side + ", " + strength + ")",
                kites.planTurn(minute, side, strength), model.planTurn(minute, side, strength));
    }

    private void dropTurn() {
        int minute = oneOf(3) == 0 ? kites.count(1) + oneOf(12) : kites.turnOf(oneOf(8), 0);
        due.is(run + "dropTurn(" + minute + ")", kites.dropTurn(minute), model.dropTurn(minute));
    }

    private void crowd(boolean inNorth) {
        due.is(run + "crowd(" + inNorth + ")", kites.crowd(inNorth), model.crowd(inNorth));
    }

    private void setTangle(int minutes) {
        due.is(run + "setTangle(" + minutes + ")", kites.setTangle(minutes), model.setTangle(minutes));
    }

    private void history() {
        switch (oneOf(4)) {
            case 0: due.is(run + "keep()", kites.keep(), model.keep()); break;
            case 1: due.is(run + "restore()", kites.restore(), model.restore()); break;
            default:
                for (int i = oneOf(7); i > 0; i--) {
                    due.is(run + "undo()", kites.undo(), model.undo());
                }
        }
    }

    private void tell() {
        tellFlier(about(kites.count(0)), about(8));
        tellReads(about(12));
        tellIfTraded(about(kites.count(0) - 1), about(3));
        tellTurn(about(8), about(3));
        tellTangle(about(9), about(4));
        tellCount(about(14));
        due.is(run + "nextTrade()", kites.nextTrade(), model.nextTrade());
        if (oneOf(8) == 0) {
            due.is(run + "spelledIn()", kites.spelledIn(), model.spelledIn());
        }
    }

    private void tellFlier(int place, int what) {
        due.is(run + "flier(" + place + ", " + what + ")", kites.flier(place, what), model.flier(place, what));
    }

    private void tellReads(int rank) {
        due.is(run + "reads(" + rank + ")", kites.reads(rank), model.reads(rank));
    }

    private void tellIfTraded(int place, int what) {
        due.is(run + "ifTraded(" + place + ", " + what + ")", kites.ifTraded(place, what), model.ifTraded(place, what));
    }

    private void tellTurn(int rank, int what) {
        due.is(run + "turnOf(" + rank + ", " + what + ")", kites.turnOf(rank, what), model.turnOf(rank, what));
    }

    private void tellTangle(int back, int what) {
        due.is(run + "tangle(" + back + ", " + what + ")", kites.tangle(back, what), model.tangle(back, what));
    }

    private void tellCount(int what) {
        due.is(run + "count(" + what + ")", kites.count(what), model.count(what));
    }

    private void tellAll() {
        for (int first = -1; first <= 12; first++) {
            for (int what = -1; what <= 8; what++) {
                tellFlier(first, what);
                tellIfTraded(first, what);
                tellTurn(first, what);
                tellTangle(first, what);
            }
            tellReads(first);
        }
        for (int what = -1; what <= 14; what++) {
            tellCount(what);
        }
    }
}

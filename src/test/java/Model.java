import java.util.ArrayDeque;
import java.util.ArrayList;
import java.util.Collections;
import java.util.Comparator;
import java.util.List;
import java.util.TreeMap;
import java.util.regex.Matcher;
import java.util.regex.Pattern;

/** The document told a second time, as plainly as it goes and with the Java library, to compare answers with. */
final class Model {
    private static final Pattern ROW = Pattern.compile("[a-z][1-9](,[a-z][1-9])*");
    private static final Pattern WORD = Pattern.compile("[a-z]{1,12}");

    private static final class Flier {
        int number;
        char letter;
        int length;
        int tangledWith = -1;
        int minutes;
        int trades;

        Flier copy() {
            Flier copy = new Flier();
            copy.number = number;
            copy.letter = letter;
            copy.length = length;
            copy.tangledWith = tangledWith;
            copy.minutes = minutes;
            copy.trades = trades;
            return copy;
        }
    }

    private static final class State {
        List<Flier> fliers = new ArrayList<>();
        TreeMap<Integer, int[]> plan = new TreeMap<>();
        List<int[]> tangles = new ArrayList<>();
        String word = "";
        int came;
        int minutes;
        int side;
        int strength = 1;
        int stay = 3;
        int trades;
        boolean north;

        State copy() {
            State copy = new State();
            for (Flier flier : fliers) {
                copy.fliers.add(flier.copy());
            }
            copy.plan.putAll(plan);
            copy.tangles.addAll(tangles);
            copy.word = word;
            copy.came = came;
            copy.minutes = minutes;
            copy.side = side;
            copy.strength = strength;
            copy.stay = stay;
            copy.trades = trades;
            copy.north = north;
            return copy;
        }

        int shown(Flier flier) {
            int moved = strength * flier.length;
            int shown = 10 * fliers.indexOf(flier);
            return side == 1 ? shown + moved : side == 3 ? shown - moved : shown;
        }

        boolean tangled(Flier flier) {
            return flier.tangledWith != -1;
        }

        void tangle(Flier west, Flier east, boolean byTrade) {
            west.tangledWith = east.number;
            east.tangledWith = west.number;
            west.minutes = stay;
            east.minutes = stay;
            tangles.add(new int[] {minutes, west.number, east.number, byTrade ? 1 : 0});
        }

        /** Swaps without a minute; tells whether the two would be tangled by it. */
        boolean swap(int place) {
            Flier left = fliers.get(place);
            Flier right = fliers.get(place + 1);
            int leftBefore = shown(left);
            int rightBefore = shown(right);
            Collections.swap(fliers, place, place + 1);
            int leftBehind = shown(left);
            int rightBehind = shown(right);
            if (leftBefore < rightBefore) {
                return leftBehind <= rightBehind;
            }
            return leftBefore == rightBefore || rightBehind <= leftBehind;
        }

        boolean trade(int place) {
            boolean tangles = swap(place);
            trades++;
            fliers.get(place).trades++;
            fliers.get(place + 1).trades++;
            if (tangles) {
                tangle(fliers.get(place), fliers.get(place + 1), true);
            }
            minute();
            return tangles;
        }

        int minute() {
            minutes++;
            for (Flier flier : fliers) {
                if (tangled(flier) && --flier.minutes == 0) {
                    flier.tangledWith = -1;
                }
            }
            int[] turn = plan.remove(minutes);
            return turn == null ? 0 : turn(turn[0], turn[1]);
        }

        int turn(int newSide, int newStrength) {
            List<Integer> before = new ArrayList<>();
            for (Flier flier : fliers) {
                before.add(shown(flier));
            }
            side = newSide;
            strength = newStrength;
            int tangled = 0;
            for (int i = 0; i + 1 < fliers.size(); i++) {
                Flier west = fliers.get(i);
                Flier east = fliers.get(i + 1);
                if (tangled(west) || tangled(east)) {
                    continue;
                }
                int was = before.get(i).compareTo(before.get(i + 1));
                int is = Integer.compare(shown(west), shown(east));
                if (was != is) {
                    tangle(west, east, false);
                    tangled++;
                }
            }
            return tangled;
        }

        boolean canRead(Flier flier) {
            if (tangled(flier)) {
                return false;
            }
            for (Flier other : fliers) {
                if (other != flier && shown(other) == shown(flier)) {
                    return false;
                }
            }
            return true;
        }

        String read() {
            List<Flier> seen = new ArrayList<>();
            for (Flier flier : fliers) {
                if (canRead(flier)) {
                    seen.add(flier);
                }
            }
            seen.sort(Comparator.comparingInt(this::shown));
            return letters(seen);
        }

        String letters(List<Flier> some) {
            StringBuilder letters = new StringBuilder();
            for (Flier flier : some) {
                letters.append(flier.letter);
            }
            return north ? letters.reverse().toString() : letters.toString();
        }

        boolean spelled() {
            return !word.isEmpty() && read().equals(word) && read().length() == fliers.size();
        }

        /** How far each letter of the word in turn has to come forward; -1 for NONE. */
        int fewest() {
            StringBuilder left = new StringBuilder(letters(fliers));
            if (word.isEmpty() || left.length() != word.length()) {
                return -1;
            }
            int fewest = 0;
            for (char letter : word.toCharArray()) {
                int at = left.indexOf(String.valueOf(letter));
                if (at < 0) {
                    return -1;
                }
                fewest += at;
                left.deleteCharAt(at);
            }
            return fewest;
        }

        int fewestBehind(int place) {
            State other = copy();
            other.swap(place);
            return other.fewest();
        }

        boolean safe(int place) {
            return !tangled(fliers.get(place)) && !tangled(fliers.get(place + 1)) && !copy().swap(place);
        }

        int next() {
            int fewest = fewest();
            for (int place = 0; fewest >= 0 && place + 1 < fliers.size(); place++) {
                if (fewestBehind(place) < fewest && safe(place)) {
                    return place;
                }
            }
            return -1;
        }
    }

    private State state = new State();
    private State snapshot = null;
    private final ArrayDeque<State> history = new ArrayDeque<>();
    private final StringBuilder text = new StringBuilder();

    private void act() {
        history.addLast(state.copy());
        if (history.size() > 4) {
            history.removeFirst();
        }
    }

    private static boolean within(int value, int low, int high) {
        return low <= value && value <= high;
    }

    private boolean place(int place) {
        return within(place, 0, state.fliers.size() - 1);
    }

    private boolean pair(int place) {
        return within(place, 0, state.fliers.size() - 2);
    }

    private static int noneIfLess(int number) {
        return number < 0 ? Due.NONE : number;
    }

    private void add(char letter, int length) {
        Flier flier = new Flier();
        flier.letter = letter;
        flier.length = length;
        flier.number = state.came++;
        state.fliers.add(flier);
    }

    /** -1 without one. */
    private int fault(Pattern pattern) {
        for (int end = 1; end <= text.length(); end++) {
            Matcher start = pattern.matcher(text.substring(0, end));
            if (!start.matches() && !start.hitEnd()) {
                return end - 1;
            }
        }
        return pattern.matcher(text).matches() ? -1 : text.length();
    }

    int come(char letter, int length) {
        if (!within(letter, 'a', 'z') || !within(length, 1, 9)) {
            return Due.BAD_VALUE;
        }
        if (state.fliers.size() == 12 || state.came == 99) {
            return Due.FULL;
        }
        act();
        add(letter, length);
        return state.fliers.size() - 1;
    }

    int readRow() {
        int fault = fault(ROW);
        if (fault >= 0) {
            return -1000100 - fault;
        }
        String[] parts = text.toString().split(",");
        if (state.fliers.size() + parts.length > 12 || state.came + parts.length > 99) {
            return Due.FULL;
        }
        act();
        for (String part : parts) {
            add(part.charAt(0), Integer.parseInt(part.substring(1)));
        }
        return state.fliers.size();
    }

    int go(int place) {
        if (!place(place)) {
            return Due.UNKNOWN;
        }
        if (state.tangled(state.fliers.get(place))) {
            return Due.NOT_POSSIBLE;
        }
        act();
        state.fliers.remove(place);
        return state.fliers.size();
    }

    int pay(int place, int length) {
        if (!place(place)) {
            return Due.UNKNOWN;
        }
        if (!within(length, 1, 9)) {
            return Due.BAD_VALUE;
        }
        int previous = state.fliers.get(place).length;
        if (previous == length) {
            return Due.NONE;
        }
        act();
        state.fliers.get(place).length = length;
        return previous;
    }

    int trade(int place) {
        if (!pair(place)) {
            return Due.UNKNOWN;
        }
        if (state.tangled(state.fliers.get(place)) || state.tangled(state.fliers.get(place + 1))
                || state.minutes == 9999) {
            return Due.NOT_POSSIBLE;
        }
        act();
        return state.trade(place) ? 1 : 0;
    }

    int pass(int minutes) {
        if (!within(minutes, 1, 60)) {
            return Due.BAD_VALUE;
        }
        if (state.minutes + minutes > 9999) {
            return Due.FULL;
        }
        act();
        int tangled = 0;
        for (int i = 0; i < minutes; i++) {
            tangled += state.minute();
        }
        return tangled;
    }

    int wind(int side, int strength) {
        if (!within(side, 0, 3) || !within(strength, 0, 5)) {
            return Due.BAD_VALUE;
        }
        if (side == state.side && strength == state.strength) {
            return Due.NONE;
        }
        act();
        return state.turn(side, strength);
    }

    int planTurn(int minute, int side, int strength) {
        if (!within(minute, 1, 9999) || !within(side, 0, 3) || !within(strength, 0, 5)) {
            return Due.BAD_VALUE;
        }
        if (minute <= state.minutes || state.plan.containsKey(minute)) {
            return Due.NOT_POSSIBLE;
        }
        if (state.plan.size() == 8) {
            return Due.FULL;
        }
        act();
        state.plan.put(minute, new int[] {side, strength});
        return state.plan.size();
    }

    int dropTurn(int minute) {
        if (!state.plan.containsKey(minute)) {
            return Due.UNKNOWN;
        }
        act();
        state.plan.remove(minute);
        return state.plan.size();
    }

    int crowd(boolean inNorth) {
        if (state.north == inNorth) {
            return Due.NONE;
        }
        act();
        state.north = inNorth;
        return state.read().length();
    }

    int setTangle(int minutes) {
        if (!within(minutes, 1, 9)) {
            return Due.BAD_VALUE;
        }
        int previous = state.stay;
        if (previous == minutes) {
            return Due.NONE;
        }
        act();
        state.stay = minutes;
        return previous;
    }

    int want() {
        int fault = fault(WORD);
        if (fault >= 0) {
            return -1000100 - fault;
        }
        if (state.word.contentEquals(text)) {
            return Due.NONE;
        }
        act();
        state.word = text.toString();
        return state.word.length();
    }

    int type(char character) {
        if (text.length() == 60) {
            return Due.FULL;
        }
        return text.append(character).length();
    }

    int clearText() {
        int length = text.length();
        text.setLength(0);
        return length;
    }

    int undo() {
        if (history.isEmpty()) {
            return Due.NONE;
        }
        state = history.removeLast();
        return history.size();
    }

    int keep() {
        snapshot = state.copy();
        return state.minutes;
    }

    int restore() {
        if (snapshot == null) {
            return Due.NONE;
        }
        act();
        state = snapshot.copy();
        return state.minutes;
    }

    int flier(int place, int what) {
        if (!place(place)) {
            return Due.UNKNOWN;
        }
        Flier flier = state.fliers.get(place);
        int mate = -1;
        for (int other = 0; other < state.fliers.size(); other++) {
            if (state.fliers.get(other).number == flier.tangledWith) {
                mate = other;
            }
        }
        int[] told = {flier.number, flier.letter, flier.length, state.shown(flier), noneIfLess(mate),
            flier.minutes, state.canRead(flier) ? 1 : 0, flier.trades};
        return within(what, 0, 7) ? told[what] : Due.BAD_VALUE;
    }

    int reads(int rank) {
        if (rank < 0) {
            return Due.BAD_VALUE;
        }
        String read = state.read();
        return rank < read.length() ? read.charAt(rank) : Due.NONE;
    }

    int ifTraded(int place, int what) {
        if (!pair(place)) {
            return Due.UNKNOWN;
        }
        if (!within(what, 0, 2)) {
            return Due.BAD_VALUE;
        }
        if (what == 1) {
            return state.safe(place) ? 1 : 0;
        }
        if (state.fewest() < 0) {
            return Due.NONE;
        }
        int behind = state.fewestBehind(place);
        return what == 2 ? behind : behind < state.fewest() ? 1 : 0;
    }

    int nextTrade() {
        return noneIfLess(state.next());
    }

    int spelledIn() {
        State trial = state.copy();
        for (int minutes = 0; minutes <= 200; minutes++) {
            if (trial.spelled()) {
                return minutes;
            }
            int next = trial.next();
            if (next < 0) {
                trial.minute();
            } else {
                trial.trade(next);
            }
        }
        return Due.NONE;
    }

    int turnOf(int rank, int what) {
        if (rank < 0 || !within(what, 0, 2)) {
            return Due.BAD_VALUE;
        }
        if (rank >= state.plan.size()) {
            return Due.NONE;
        }
        int minute = new ArrayList<>(state.plan.keySet()).get(rank);
        return what == 0 ? minute : state.plan.get(minute)[what - 1];
    }

    int tangle(int back, int what) {
        if (back < 0 || !within(what, 0, 3)) {
            return Due.BAD_VALUE;
        }
        if (back >= 8 || back >= state.tangles.size()) {
            return Due.NONE;
        }
        return state.tangles.get(state.tangles.size() - 1 - back)[what];
    }

    int count(int what) {
        int[] told = {state.fliers.size(), state.minutes, state.side, state.strength, state.north ? 1 : 0,
            state.read().length(), state.word.length(), noneIfLess(state.fewest()), state.spelled() ? 1 : 0,
            state.trades, state.tangles.size(), state.plan.size(), history.size(), text.length()};
        return within(what, 0, 13) ? told[what] : Due.BAD_VALUE;
    }

    /** The letters as the crowd would read them without wind. */
    String calm() {
        return state.letters(state.fliers);
    }
}

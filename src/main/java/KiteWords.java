/** A row of fliers whose kites spell words. ../shared/DOC.md says what each call promises. */
public final class KiteWords {
    public static final int UNKNOWN = -1000001;
    public static final int BAD_VALUE = -1000002;
    public static final int FULL = -1000003;
    public static final int NOT_POSSIBLE = -1000004;
    public static final int NONE = -1000005;

    private static final int MOST_FLIERS = 12;
    private static final int MOST_EVER = 99;
    private static final int LONGEST_LINE = 9;
    private static final int PLACE_WIDTH = 10;
    private static final int LAST_MINUTE = 9999;
    private static final int LONGEST_PASS = 60;
    private static final int FROM_WEST = 1;
    private static final int FROM_EAST = 3;
    private static final int LAST_SIDE = 3;
    private static final int STRONGEST = 5;
    private static final int MOST_TURNS = 8;
    private static final int LONGEST_TANGLE = 9;
    private static final int TANGLES_TOLD = 8;
    private static final int MOST_LETTERS = 12;
    private static final int MOST_TYPED = 60;
    private static final int MOST_RECORDED = 4;
    private static final int LONGEST_TRIAL = 200;
    private static final int FAULT_BASE = -1000100;
    private static final int NO_FAULT = -1;
    private static final int NOWHERE = -1;

    private final State now = new State();
    private final State trial = new State();
    private final State snapshot = new State();
    private final State[] history = new State[MOST_RECORDED];
    private final char[] text = new char[MOST_TYPED];
    private final Reading reading = new Reading();
    private final Aim aim = new Aim();
    private boolean hasSnapshot = false;
    private int recorded = 0;
    private int typed = 0;

    public KiteWords() {
        // All states are made here once and written over later, so that no call makes an object.
        for (int i = 0; i < MOST_RECORDED; i++) {
            history[i] = new State();
        }
    }

    // ---- fliers

    public int come(char letter, int length) {
        if (!isLetter(letter) || !isWithin(length, 1, LONGEST_LINE)) {
            return BAD_VALUE;
        }
        if (!now.row.hasRoomFor(1)) {
            return FULL;
        }
        record();
        now.row.append(letter, length);
        return now.row.size - 1;
    }

    public int readRow() {
        int fault = rowFault();
        if (fault != NO_FAULT) {
            return FAULT_BASE - fault;
        }
        if (!now.row.hasRoomFor((typed + 1) / 3)) {
            return FULL;
        }
        record();
        for (int i = 0; i + 1 < typed; i += 3) {
            now.row.append(text[i], text[i + 1] - '0');
        }
        return now.row.size;
    }

    public int go(int place) {
        if (!now.row.hasPlace(place)) {
            return UNKNOWN;
        }
        if (now.row.isTangled(place)) {
            return NOT_POSSIBLE;
        }
        record();
        now.row.remove(place);
        return now.row.size;
    }

    public int pay(int place, int length) {
        if (!now.row.hasPlace(place)) {
            return UNKNOWN;
        }
        if (!isWithin(length, 1, LONGEST_LINE)) {
            return BAD_VALUE;
        }
        int previous = now.row.length[place];
        if (previous == length) {
            return NONE;
        }
        record();
        now.row.length[place] = length;
        return previous;
    }

    public int trade(int place) {
        if (!now.row.hasPairAt(place)) {
            return UNKNOWN;
        }
        if (!now.row.isPairFree(place) || now.minutes >= LAST_MINUTE) {
            return NOT_POSSIBLE;
        }
        record();
        return asNumber(now.tradePlaces(place));
    }

    // ---- time, wind, settings

    public int pass(int minutes) {
        if (!isWithin(minutes, 1, LONGEST_PASS)) {
            return BAD_VALUE;
        }
        if (now.minutes + minutes > LAST_MINUTE) {
            return FULL;
        }
        record();
        int tangled = 0;
        for (int i = 0; i < minutes; i++) {
            tangled += now.passMinute();
        }
        return tangled;
    }

    public int wind(int side, int strength) {
        if (!isWind(side, strength)) {
            return BAD_VALUE;
        }
        if (now.side == side && now.strength == strength) {
            return NONE;
        }
        record();
        return now.turnWind(side, strength);
    }

    public int planTurn(int minute, int side, int strength) {
        if (!isWithin(minute, 1, LAST_MINUTE) || !isWind(side, strength)) {
            return BAD_VALUE;
        }
        if (minute <= now.minutes || now.plan.rankOf(minute) != NOWHERE) {
            return NOT_POSSIBLE;
        }
        if (now.plan.size >= MOST_TURNS) {
            return FULL;
        }
        record();
        now.plan.insert(minute, side, strength);
        return now.plan.size;
    }

    public int dropTurn(int minute) {
        int rank = now.plan.rankOf(minute);
        if (rank == NOWHERE) {
            return UNKNOWN;
        }
        record();
        now.plan.remove(rank);
        return now.plan.size;
    }

    public int crowd(boolean inNorth) {
        if (now.inNorth == inNorth) {
            return NONE;
        }
        record();
        now.inNorth = inNorth;
        return readableKites();
    }

    public int setTangle(int minutes) {
        if (!isWithin(minutes, 1, LONGEST_TANGLE)) {
            return BAD_VALUE;
        }
        int previous = now.tangleMinutes;
        if (previous == minutes) {
            return NONE;
        }
        record();
        now.tangleMinutes = minutes;
        return previous;
    }

    // ---- the word

    public int want() {
        int fault = wordFault();
        if (fault != NO_FAULT) {
            return FAULT_BASE - fault;
        }
        if (now.word.isSame(text, typed)) {
            return NONE;
        }
        record();
        now.word.become(text, typed);
        return now.word.size;
    }

    // ---- texts

    public int type(char character) {
        if (typed >= MOST_TYPED) {
            return FULL;
        }
        text[typed] = character;
        typed++;
        return typed;
    }

    public int clearText() {
        int previous = typed;
        typed = 0;
        return previous;
    }

    // ---- history

    public int undo() {
        if (recorded <= 0) {
            return NONE;
        }
        recorded--;
        now.copyFrom(history[recorded]);
        return recorded;
    }

    public int keep() {
        snapshot.copyFrom(now);
        hasSnapshot = true;
        return now.minutes;
    }

    public int restore() {
        if (!hasSnapshot) {
            return NONE;
        }
        record();
        now.copyFrom(snapshot);
        return now.minutes;
    }

    // ---- what is told

    public int flier(int place, int what) {
        if (!now.row.hasPlace(place)) {
            return UNKNOWN;
        }
        switch (what) {
            case 0: return now.row.number[place];
            case 1: return now.row.letter[place];
            case 2: return now.row.length[place];
            case 3: return now.row.shownAt(place, now.drift());
            case 4: return now.row.isTangled(place) ? place + now.row.mate[place] : NONE;
            case 5: return now.row.minutesLeft[place];
            case 6: return asNumber(now.row.canBeRead(place, now.drift()));
            case 7: return now.row.trades[place];
            default: return BAD_VALUE;
        }
    }

    public int reads(int rank) {
        if (rank < 0) {
            return BAD_VALUE;
        }
        reading.look(now);
        if (rank >= reading.size) {
            return NONE;
        }
        return now.row.letter[reading.places[rank]];
    }

    public int ifTraded(int place, int what) {
        if (!now.row.hasPairAt(place)) {
            return UNKNOWN;
        }
        if (!isWithin(what, 0, 2)) {
            return BAD_VALUE;
        }
        if (what == 1) {
            return asNumber(now.isSafe(place));
        }
        aim.match(now);
        if (!aim.isPossible) {
            return NONE;
        }
        return what == 0 ? asNumber(aim.isGood(place)) : aim.fewestBehind(now.row, place);
    }

    public int nextTrade() {
        int place = nextPlace(now);
        return place == NOWHERE ? NONE : place;
    }

    public int spelledIn() {
        aim.match(now);
        // In a trial nobody comes or goes, so other letters than the word's stay other letters.
        if (!aim.isPossible) {
            return NONE;
        }
        trial.copyFrom(now);
        for (int passed = 0; passed <= LONGEST_TRIAL; passed++) {
            if (isSpelled(trial)) {
                return passed;
            }
            int place = nextPlace(trial);
            if (place != NOWHERE) {
                trial.tradePlaces(place);
            } else if (trial.isAtRest()) {
                return NONE;
            } else {
                trial.passMinute();
            }
        }
        return NONE;
    }

    public int turnOf(int rank, int what) {
        if (rank < 0 || !isWithin(what, 0, 2)) {
            return BAD_VALUE;
        }
        if (rank >= now.plan.size) {
            return NONE;
        }
        switch (what) {
            case 0: return now.plan.minute[rank];
            case 1: return now.plan.side[rank];
            default: return now.plan.strength[rank];
        }
    }

    public int tangle(int back, int what) {
        if (back < 0 || !isWithin(what, 0, 3)) {
            return BAD_VALUE;
        }
        if (back >= now.log.size) {
            return NONE;
        }
        switch (what) {
            case 0: return now.log.minute[back];
            case 1: return now.log.western[back];
            case 2: return now.log.eastern[back];
            default: return now.log.byTrade[back];
        }
    }

    public int count(int what) {
        switch (what) {
            case 0: return now.row.size;
            case 1: return now.minutes;
            case 2: return now.side;
            case 3: return now.strength;
            case 4: return asNumber(now.inNorth);
            case 5: return readableKites();
            case 6: return now.word.size;
            case 7: return fewestTrades();
            case 8: return asNumber(isSpelled(now));
            case 9: return now.tradesSoFar;
            case 10: return now.log.soFar;
            case 11: return now.plan.size;
            case 12: return recorded;
            case 13: return typed;
            default: return BAD_VALUE;
        }
    }

    private int readableKites() {
        reading.look(now);
        return reading.size;
    }

    private int fewestTrades() {
        aim.match(now);
        return aim.isPossible ? aim.fewest : NONE;
    }

    private boolean isSpelled(State state) {
        reading.look(state);
        if (reading.size != state.row.size || reading.size != state.word.size || state.word.size == 0) {
            return false;
        }
        for (int i = 0; i < reading.size; i++) {
            if (state.row.letter[reading.places[i]] != state.word.letters[i]) {
                return false;
            }
        }
        return true;
    }

    private int nextPlace(State state) {
        aim.match(state);
        if (!aim.isPossible) {
            return NOWHERE;
        }
        for (int place = 0; place < state.row.size - 1; place++) {
            if (aim.isGood(place) && state.isSafe(place)) {
                return place;
            }
        }
        return NOWHERE;
    }

    private void record() {
        if (recorded >= MOST_RECORDED) {
            dropOldest();
        }
        history[recorded].copyFrom(now);
        recorded++;
    }

    private void dropOldest() {
        State oldest = history[0];
        for (int i = 1; i < MOST_RECORDED; i++) {
            history[i - 1] = history[i];
        }
        // Its object takes the next state that is recorded.
        history[MOST_RECORDED - 1] = oldest;
        recorded = MOST_RECORDED - 1;
    }

    private int rowFault() {
        for (int i = 0; i < typed; i++) {
            if (!isAllowedInRow(text[i], i % 3)) {
                return i;
            }
        }
        // Only behind the digit of a flier may the text end.
        return typed % 3 == 2 ? NO_FAULT : typed;
    }

    private static boolean isAllowedInRow(char character, int part) {
        switch (part) {
            case 0: return isLetter(character);
            case 1: return character >= '1' && character <= '9';
            default: return character == ',';
        }
    }

    private int wordFault() {
        for (int i = 0; i < typed; i++) {
            if (i >= MOST_LETTERS || !isLetter(text[i])) {
                return i;
            }
        }
        return typed > 0 ? NO_FAULT : 0;
    }

    private static boolean isLetter(char character) {
        return character >= 'a' && character <= 'z';
    }

    private static boolean isWind(int side, int strength) {
        return isWithin(side, 0, LAST_SIDE) && isWithin(strength, 0, STRONGEST);
    }

    private static boolean isWithin(int value, int least, int most) {
        return value >= least && value <= most;
    }

    private static int asNumber(boolean holds) {
        return holds ? 1 : 0;
    }

    /** -1, 0 or 1: whether a kite at the first place is shown west of, at, or east of the second. */
    private static int sideOf(int shown, int other) {
        if (shown == other) {
            return 0;
        }
        return shown < other ? -1 : 1;
    }

    /** Everything that undo and the snapshot bring back. */
    private static final class State {
        final Row row = new Row();
        final Plan plan = new Plan();
        final TangleLog log = new TangleLog();
        final Word word = new Word();
        int minutes = 0;
        int side = 0;
        int strength = 1;
        boolean inNorth = false;
        int tangleMinutes = 3;
        int tradesSoFar = 0;

        void copyFrom(State other) {
            row.copyFrom(other.row);
            plan.copyFrom(other.plan);
            log.copyFrom(other.log);
            word.copyFrom(other.word);
            minutes = other.minutes;
            side = other.side;
            strength = other.strength;
            inNorth = other.inNorth;
            tangleMinutes = other.tangleMinutes;
            tradesSoFar = other.tradesSoFar;
        }

        /** How far the wind moves a kite to the east for each length of its line. */
        int drift() {
            if (side == FROM_WEST) {
                return strength;
            }
            return side == FROM_EAST ? -strength : 0;
        }

        /** Trades a free pair and lets the minute pass; tells whether the trade tangled them. */
        boolean tradePlaces(int place) {
            boolean tangles = row.wouldTangle(place, drift());
            row.swap(place);
            tradesSoFar++;
            if (tangles) {
                tangleAt(place, true);
            }
            passMinute();
            return tangles;
        }

        /** Tells how many pairs the minute tangled. */
        int passMinute() {
            minutes++;
            row.loosen();
            int rank = plan.rankOf(minutes);
            if (rank == NOWHERE) {
                return 0;
            }
            int newSide = plan.side[rank];
            int newStrength = plan.strength[rank];
            plan.remove(rank);
            return turnWind(newSide, newStrength);
        }

        /** Tells how many pairs the turn tangled. */
        int turnWind(int newSide, int newStrength) {
            int driftBefore = drift();
            side = newSide;
            strength = newStrength;
            int tangled = 0;
            for (int place = 0; place < row.size - 1; place++) {
                if (row.isPairFree(place) && row.sideAt(place, driftBefore) != row.sideAt(place, drift())) {
                    tangleAt(place, false);
                    tangled++;
                }
            }
            return tangled;
        }

        boolean isSafe(int place) {
            return row.isPairFree(place) && !row.wouldTangle(place, drift());
        }

        /** Whether minutes alone can change nothing any more but their count. */
        boolean isAtRest() {
            if (plan.size > 0) {
                return false;
            }
            for (int place = 0; place < row.size; place++) {
                if (row.isTangled(place)) {
                    return false;
                }
            }
            return true;
        }

        private void tangleAt(int place, boolean byTrade) {
            row.tie(place, tangleMinutes);
            log.add(minutes, row.number[place], row.number[place + 1], asNumber(byTrade));
        }
    }

    /** The fliers by their places. */
    private static final class Row {
        final int[] number = new int[MOST_FLIERS];
        final int[] letter = new int[MOST_FLIERS];
        final int[] length = new int[MOST_FLIERS];
        // Who is tangled cannot move against the other, so the other stays next to him:
        // 1 if he is the next one in the east, -1 in the west, 0 without a tangle.
        final int[] mate = new int[MOST_FLIERS];
        final int[] minutesLeft = new int[MOST_FLIERS];
        final int[] trades = new int[MOST_FLIERS];
        int size = 0;
        int everCame = 0;

        void copyFrom(Row other) {
            System.arraycopy(other.number, 0, number, 0, MOST_FLIERS);
            System.arraycopy(other.letter, 0, letter, 0, MOST_FLIERS);
            System.arraycopy(other.length, 0, length, 0, MOST_FLIERS);
            System.arraycopy(other.mate, 0, mate, 0, MOST_FLIERS);
            System.arraycopy(other.minutesLeft, 0, minutesLeft, 0, MOST_FLIERS);
            System.arraycopy(other.trades, 0, trades, 0, MOST_FLIERS);
            size = other.size;
            everCame = other.everCame;
        }

        boolean hasPlace(int place) {
            return place >= 0 && place < size;
        }

        boolean hasPairAt(int place) {
            return place >= 0 && place < size - 1;
        }

        boolean hasRoomFor(int more) {
            return size + more <= MOST_FLIERS && everCame + more <= MOST_EVER;
        }

        void append(char newLetter, int newLength) {
            if (size >= MOST_FLIERS) {
                return;
            }
            number[size] = everCame;
            letter[size] = newLetter;
            length[size] = newLength;
            mate[size] = 0;
            minutesLeft[size] = 0;
            trades[size] = 0;
            size++;
            everCame++;
        }

        void remove(int place) {
            for (int i = place; i < size - 1; i++) {
                swapEntries(i);
            }
            size--;
        }

        void swap(int place) {
            swapEntries(place);
            trades[place]++;
            trades[place + 1]++;
        }

        private void swapEntries(int place) {
            swapWithNext(number, place);
            swapWithNext(letter, place);
            swapWithNext(length, place);
            swapWithNext(mate, place);
            swapWithNext(minutesLeft, place);
            swapWithNext(trades, place);
        }

        private static void swapWithNext(int[] entries, int place) {
            int held = entries[place];
            entries[place] = entries[place + 1];
            entries[place + 1] = held;
        }

        boolean isTangled(int place) {
            return mate[place] != 0;
        }

        boolean isPairFree(int place) {
            return !isTangled(place) && !isTangled(place + 1);
        }

        void tie(int place, int minutes) {
            mate[place] = 1;
            mate[place + 1] = -1;
            minutesLeft[place] = minutes;
            minutesLeft[place + 1] = minutes;
        }

        void loosen() {
            for (int place = 0; place < size; place++) {
                if (minutesLeft[place] > 0) {
                    minutesLeft[place]--;
                }
                if (minutesLeft[place] == 0) {
                    mate[place] = 0;
                }
            }
        }

        int shownAt(int place, int drift) {
            return PLACE_WIDTH * place + drift * length[place];
        }

        /** On which side of the next flier's kite that of this one is shown. */
        int sideAt(int place, int drift) {
            return sideOf(shownAt(place, drift), shownAt(place + 1, drift));
        }

        boolean wouldTangle(int place, int drift) {
            int before = sideAt(place, drift);
            int behind = sideOf(PLACE_WIDTH * (place + 1) + drift * length[place],
                    PLACE_WIDTH * place + drift * length[place + 1]);
            return before == 0 || behind == 0 || before == behind;
        }

        boolean canBeRead(int place, int drift) {
            if (isTangled(place)) {
                return false;
            }
            int shown = shownAt(place, drift);
            for (int other = 0; other < size; other++) {
                if (other != place && shownAt(other, drift) == shown) {
                    return false;
                }
            }
            return true;
        }
    }

    /** The turns of the wind that are still to come, by their minutes. */
    private static final class Plan {
        final int[] minute = new int[MOST_TURNS];
        final int[] side = new int[MOST_TURNS];
        final int[] strength = new int[MOST_TURNS];
        int size = 0;

        void copyFrom(Plan other) {
            System.arraycopy(other.minute, 0, minute, 0, MOST_TURNS);
            System.arraycopy(other.side, 0, side, 0, MOST_TURNS);
            System.arraycopy(other.strength, 0, strength, 0, MOST_TURNS);
            size = other.size;
        }

        int rankOf(int wanted) {
            for (int rank = 0; rank < size; rank++) {
                if (minute[rank] == wanted) {
                    return rank;
                }
            }
            return NOWHERE;
        }

        void insert(int newMinute, int newSide, int newStrength) {
            if (size >= MOST_TURNS) {
                return;
            }
            int rank = size;
            for (; rank > 0 && minute[rank - 1] > newMinute; rank--) {
                move(rank - 1, rank);
            }
            minute[rank] = newMinute;
            side[rank] = newSide;
            strength[rank] = newStrength;
            size++;
        }

        void remove(int rank) {
            for (int i = rank; i < size - 1; i++) {
                move(i + 1, i);
            }
            size--;
        }

        private void move(int from, int to) {
            minute[to] = minute[from];
            side[to] = side[from];
            strength[to] = strength[from];
        }
    }

    /** The latest tangles, the latest of all first, and how many there have been. */
    private static final class TangleLog {
        final int[] minute = new int[TANGLES_TOLD];
        final int[] western = new int[TANGLES_TOLD];
        final int[] eastern = new int[TANGLES_TOLD];
        final int[] byTrade = new int[TANGLES_TOLD];
        int size = 0;
        int soFar = 0;

        void copyFrom(TangleLog other) {
            System.arraycopy(other.minute, 0, minute, 0, TANGLES_TOLD);
            System.arraycopy(other.western, 0, western, 0, TANGLES_TOLD);
            System.arraycopy(other.eastern, 0, eastern, 0, TANGLES_TOLD);
            System.arraycopy(other.byTrade, 0, byTrade, 0, TANGLES_TOLD);
            size = other.size;
            soFar = other.soFar;
        }

        void add(int atMinute, int westernNumber, int easternNumber, int tradeFlag) {
            for (int back = TANGLES_TOLD - 1; back > 0; back--) {
                minute[back] = minute[back - 1];
                western[back] = western[back - 1];
                eastern[back] = eastern[back - 1];
                byTrade[back] = byTrade[back - 1];
            }
            minute[0] = atMinute;
            western[0] = westernNumber;
            eastern[0] = easternNumber;
            byTrade[0] = tradeFlag;
            size = Math.min(size + 1, TANGLES_TOLD);
            soFar++;
        }
    }

    /** The word that is wanted; without letters if there is none. */
    private static final class Word {
        final char[] letters = new char[MOST_LETTERS];
        int size = 0;

        void copyFrom(Word other) {
            System.arraycopy(other.letters, 0, letters, 0, MOST_LETTERS);
            size = other.size;
        }

        boolean isSame(char[] text, int typed) {
            if (size != typed) {
                return false;
            }
            for (int i = 0; i < size; i++) {
                if (letters[i] != text[i]) {
                    return false;
                }
            }
            return true;
        }

        void become(char[] text, int typed) {
            size = Math.min(typed, MOST_LETTERS);
            System.arraycopy(text, 0, letters, 0, size);
        }
    }

    /** The places whose kites can be read, in the order in which the crowd reads them. */
    private static final class Reading {
        final int[] places = new int[MOST_FLIERS];
        int size = 0;

        void look(State state) {
            int drift = state.drift();
            size = 0;
            for (int place = 0; place < state.row.size; place++) {
                if (state.row.canBeRead(place, drift)) {
                    insert(state, place, drift);
                }
            }
        }

        private void insert(State state, int place, int drift) {
            int shown = state.row.shownAt(place, drift);
            int rank = size;
            for (; rank > 0; rank--) {
                boolean isWestern = shown < state.row.shownAt(places[rank - 1], drift);
                if (isWestern == state.inNorth) {
                    break;
                }
                places[rank] = places[rank - 1];
            }
            places[rank] = place;
            size++;
        }
    }

    /** Which letter of the word each flier stands for, and how many trades that takes. */
    private static final class Aim {
        private final int[] target = new int[MOST_FLIERS];
        private boolean inNorth = false;
        boolean isPossible = false;
        int fewest = 0;

        void match(State state) {
            inNorth = state.inNorth;
            fewest = 0;
            isPossible = state.word.size > 0 && state.word.size == state.row.size
                    && findTargets(state.row, state.word);
            if (isPossible) {
                fewest = countWrongPairs(state.row.size);
            }
        }

        private boolean findTargets(Row row, Word word) {
            int taken = 0;
            for (int i = 0; i < row.size; i++) {
                int place = inNorth ? row.size - 1 - i : i;
                int index = firstFree(word, row.letter[place], taken);
                if (index == NOWHERE) {
                    return false;
                }
                taken |= 1 << index;
                target[place] = index;
            }
            return true;
        }

        private static int firstFree(Word word, int letter, int taken) {
            for (int index = 0; index < word.size; index++) {
                if (word.letters[index] == letter && (taken >> index & 1) == 0) {
                    return index;
                }
            }
            return NOWHERE;
        }

        private int countWrongPairs(int size) {
            int wrong = 0;
            for (int west = 0; west < size; west++) {
                for (int east = west + 1; east < size; east++) {
                    if (isWrongPair(west, east)) {
                        wrong++;
                    }
                }
            }
            return wrong;
        }

        private boolean isWrongPair(int west, int east) {
            return inNorth ? target[west] < target[east] : target[west] > target[east];
        }

        // A trade of neighbours turns their own pair round and no other, so one that
        // stands the wrong way is one trade less.
        boolean isGood(int place) {
            return isWrongPair(place, place + 1);
        }

        int fewestBehind(Row row, int place) {
            // Equal letters change their targets with their places.
            if (row.letter[place] == row.letter[place + 1]) {
                return fewest;
            }
            return isGood(place) ? fewest - 1 : fewest + 1;
        }
    }
}

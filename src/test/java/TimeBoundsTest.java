/**
 * The limits that the document names under TIME AND WIND and in promises 7 to 12, 24 and 25: time at its end, the wind,
 * the plan empty and full, how long a tangle stays, the log empty and full. A quoted line is the sentence that is tested.
 */
public final class TimeBoundsTest {
    private static final Due due = new Due("TimeBoundsTest");
    private static final int[] FAR = {Integer.MIN_VALUE, Integer.MIN_VALUE + 1, Integer.MAX_VALUE, Integer.MAX_VALUE - 1,
        (1 << 16) + 1, (1 << 8) + 1, (1 << 31) + 1};

    public static void main(String[] args) {
        minutesOfPass();
        passToTheEnd();
        passCountsEachTangle();
        windAtFirst();
        sidesAndStrengths();
        sidesAndStrengthsOfTurns();
        windIsAtOnce();
        windTanglesByOrder();
        windTanglesNeighboursOnly();
        windTanglesFromTheWest();
        windSkipsTheTangled();
        turnAtItsMinute();
        turnsOneAfterTheOther();
        turnOfTheLastMinute();
        turnIsDoneInATrade();
        turnOfTheSameWind();
        minuteFreesAheadOfItsTurn();
        minutesOfPlan();
        minuteGreaterThanNow();
        oneTurnForAMinute();
        planIsFull();
        turnsByTheirMinutes();
        emptyPlan();
        dropTurnOfAnyRank();
        crowdOnBothSides();
        minutesOfSetTangle();
        minutesOfATangle();
        onlyLaterTangles();
        logIsEmpty();
        logIsFull();
        logOfTrades();
        logOfSeveralPairs();
        logWhat();
        due.close();
    }

    // "minutes: 1 to 60"
    private static void minutesOfPass() {
        for (int minutes = -200; minutes <= 300; minutes++) {
            boolean isAllowed = minutes >= 1 && minutes <= 60;
            KiteWords kites = new KiteWords();
            due.is("pass(" + minutes + ")", kites.pass(minutes), isAllowed ? 0 : Due.BAD_VALUE);
            due.is("pass(" + minutes + "), minutes", kites.count(1), isAllowed ? minutes : 0);
            due.is("pass(" + minutes + "), history", kites.count(12), isAllowed ? 1 : 0);
        }
        for (int minutes : FAR) {
            due.is("pass(" + minutes + ")", new KiteWords().pass(minutes), Due.BAD_VALUE);
        }
    }

    // "FULL if the count of minutes would be more than 9999"
    private static void passToTheEnd() {
        int[][] cases = {{9939, 60, 1}, {9940, 60, 0}, {9940, 59, 1}, {9997, 2, 1}, {9998, 1, 1}, {9998, 2, 0}, {9999, 1, 0},
            {9999, 60, 0}};
        for (int[] c : cases) {
            KiteWords kites = new KiteWords();
            Due.passTo(kites, c[0]);
            due.is("at " + c[0] + ", pass(" + c[1] + ")", kites.pass(c[1]), c[2] == 1 ? 0 : Due.FULL);
            due.is("from " + c[0] + " then", kites.count(1), c[0] + c[2] * c[1]);
        }
    }

    // "Returns how many pairs are tangled in them"
    private static void passCountsEachTangle() {
        KiteWords kites = Due.withRow("a9,b1,c9,d1");
        kites.setTangle(1);
        for (int minute = 1; minute <= 8; minute++) {
            kites.planTurn(minute, 1, minute % 2 * 5);
        }
        due.is("two pairs, eight times", kites.pass(60), 16);
        due.is("none any more", kites.pass(60), 0);
    }

    // "The wind blows from the south (0, at first) ... with a strength (0 to 5; 1 at first)"
    private static void windAtFirst() {
        KiteWords kites = new KiteWords();
        due.is("side", kites.count(2), 0);
        due.is("strength", kites.count(3), 1);
        due.is("wind(0, 1)", kites.wind(0, 1), Due.NONE);
        due.is("no act", kites.count(12), 0);
        due.is("wind(1, 1), the other side", kites.wind(1, 1), 0);
        due.is("wind(1, 2), the other strength", kites.wind(1, 2), 0);
        due.is("wind(1, 2) again", kites.wind(1, 2), Due.NONE);
        due.is("two acts", kites.count(12), 2);
    }

    // "side: 0 to 3"; "strength: 0 to 5"
    private static void sidesAndStrengths() {
        for (int side = -10; side <= 10; side++) {
            for (int strength = -10; strength <= 10; strength++) {
                KiteWords kites = new KiteWords();
                boolean isAllowed = side >= 0 && side <= 3 && strength >= 0 && strength <= 5;
                int answer = !isAllowed ? Due.BAD_VALUE : side == 0 && strength == 1 ? Due.NONE : 0;
                due.is("wind(" + side + ", " + strength + ")", kites.wind(side, strength), answer);
                due.is("side " + side + ", " + strength, kites.count(2), isAllowed ? side : 0);
                due.is("strength " + side + ", " + strength, kites.count(3), isAllowed ? strength : 1);
            }
        }
        for (int far : FAR) {
            due.is("wind(" + far + ", 2)", new KiteWords().wind(far, 2), Due.BAD_VALUE);
            due.is("wind(2, " + far + ")", new KiteWords().wind(2, far), Due.BAD_VALUE);
        }
    }

    // planTurn: "side: 0 to 3"; "strength: 0 to 5"
    private static void sidesAndStrengthsOfTurns() {
        for (int side = -10; side <= 10; side++) {
            for (int strength = -10; strength <= 10; strength++) {
                KiteWords kites = new KiteWords();
                boolean isAllowed = side >= 0 && side <= 3 && strength >= 0 && strength <= 5;
                String told = "planTurn(7, " + side + ", " + strength + ")";
                due.is(told, kites.planTurn(7, side, strength), isAllowed ? 1 : Due.BAD_VALUE);
                due.is(told + ", its side", kites.turnOf(0, 1), isAllowed ? side : Due.NONE);
                due.is(told + ", its strength", kites.turnOf(0, 2), isAllowed ? strength : Due.NONE);
                kites.pass(7);
                due.is(told + ", side", kites.count(2), isAllowed ? side : 0);
                due.is(told + ", strength", kites.count(3), isAllowed ? strength : 1);
            }
        }
        for (int far : FAR) {
            due.is("planTurn(7, " + far + ", 2)", new KiteWords().planTurn(7, far, 2), Due.BAD_VALUE);
            due.is("planTurn(7, 2, " + far + ")", new KiteWords().planTurn(7, 2, far), Due.BAD_VALUE);
        }
    }

    // "To set the wind by hand is like a turn, at once."
    private static void windIsAtOnce() {
        KiteWords kites = Due.withRow("a9,b1");
        kites.pass(4);
        kites.planTurn(5, 0, 0);
        due.is("wind", kites.wind(1, 5), 1);
        due.is("no minute passes", kites.count(1), 4);
        due.is("no turn is done", kites.count(11), 1);
        due.is("tangled for all their minutes", kites.flier(1, 5), 3);
        due.is("at the count of minutes", kites.tangle(0, 0), 4);
        due.is("not by a trade", kites.tangle(0, 3), 0);
    }

    // "if their kites are not shown as they were: the western flier's west of the other one, at the same place, or east"
    private static void windTanglesByOrder() {
        for (int lengths = 0; lengths < 81; lengths++) {
            int west = 1 + lengths / 9;
            int east = 1 + lengths % 9;
            for (int before = -5; before <= 5; before++) {
                for (int behind = -5; behind <= 5; behind++) {
                    windTanglesByOrder(west, east, before, behind);
                }
            }
        }
    }

    private static void windTanglesByOrder(int west, int east, int before, int behind) {
        KiteWords kites = new KiteWords();
        kites.wind(before < 0 ? 3 : 1, Math.abs(before));
        kites.come('a', west);
        kites.come('b', east);
        String told = "lines " + west + ", " + east + ", from " + before + " to " + behind;
        boolean isSameWind = kites.count(2) == (behind < 0 ? 3 : 1) && kites.count(3) == Math.abs(behind);
        int was = Integer.signum(kites.flier(0, 3) - kites.flier(1, 3));
        int answer = kites.wind(behind < 0 ? 3 : 1, Math.abs(behind));
        int is = Integer.signum(kites.flier(0, 3) - kites.flier(1, 3));
        due.is(told, answer, isSameWind ? Due.NONE : was == is ? 0 : 1);
        due.is(told + ": mate", kites.flier(0, 4), was == is ? Due.NONE : 1);
    }

    // "each pair of neighbours"
    private static void windTanglesNeighboursOnly() {
        KiteWords kites = Due.withRow("a9,b5,c1");
        // a at 36, b at 30, c at 24: with b away a and c would cross, too
        due.is("a with b", kites.wind(1, 4), 1);
        due.is("c crosses b, who is tangled by that already", kites.flier(2, 4), Due.NONE);
        KiteWords apart = Due.withRow("a9,b8,c4");
        // a at 45, b at 50, c at 40: c crosses b, and a, who is no neighbour
        due.is("b with c", apart.wind(1, 5), 1);
        due.is("not a", apart.flier(0, 4), Due.NONE);
    }

    // "from the west to the east"
    private static void windTanglesFromTheWest() {
        KiteWords kites = Due.withRow("a9,b7,c5,d3,e1");
        // each at 45: every pair of neighbours comes to the same place
        due.is("two pairs of five", kites.wind(1, 5), 2);
        int[] mates = {1, 0, 3, 2, Due.NONE};
        for (int place = 0; place < 5; place++) {
            due.is("mate of " + place, kites.flier(place, 4), mates[place]);
        }
        due.is("the first pair is the earlier one", kites.tangle(1, 1), 0);
        due.is("the second pair is the later one", kites.tangle(0, 1), 2);
    }

    // "neither of whom is tangled"
    private static void windSkipsTheTangled() {
        KiteWords kites = Due.withRow("a5,b9,c1,d5");
        kites.setTangle(9);
        due.is("b with c", kites.wind(1, 5), 1);
        // a at 5 * 5 = 25 to 0 - 25, b at 55 to -35, c at 25 to 15, d at 55 to 5
        due.is("a and d cross those who are tangled", kites.wind(3, 5), 0);
        due.is("a is free", kites.flier(0, 4), Due.NONE);
        due.is("d is free", kites.flier(3, 4), Due.NONE);
        due.is("b has all its minutes", kites.flier(1, 5), 9);
    }

    // "then, if the plan has a turn for this minute"
    private static void turnAtItsMinute() {
        for (int minute = 1; minute <= 61; minute += 20) {
            KiteWords kites = Due.withRow("a9,b1");
            kites.planTurn(minute, 1, 5);
            if (minute > 1) {
                due.is("a minute ahead of " + minute, kites.pass(minute - 1), 0);
            }
            due.is("no wind yet at " + (minute - 1), kites.count(2), 0);
            due.is("the turn is there", kites.count(11), 1);
            due.is("at " + minute, kites.pass(1), 1);
            due.is("the wind of " + minute, kites.count(2) * 10 + kites.count(3), 15);
            due.is("the turn is gone", kites.count(11), 0);
            due.is("the count that has grown", kites.tangle(0, 0), minute);
            due.is("all their minutes", kites.flier(0, 5), 3);
        }
    }

    private static void turnsOneAfterTheOther() {
        KiteWords kites = new KiteWords();
        for (int minute = 8; minute >= 1; minute--) {
            kites.planTurn(minute, minute % 4, minute % 6);
        }
        for (int minute = 1; minute <= 8; minute++) {
            kites.pass(1);
            due.is("side at " + minute, kites.count(2), minute % 4);
            due.is("strength at " + minute, kites.count(3), minute % 6);
            due.is("turns at " + minute, kites.count(11), 8 - minute);
        }
        kites.pass(1);
        due.is("the last wind stays", kites.count(3), 8 % 6);
    }

    private static void turnOfTheLastMinute() {
        KiteWords kites = Due.withRow("a9,b1");
        due.is("planned", kites.planTurn(9999, 1, 5), 1);
        Due.passTo(kites, 9998);
        due.is("not yet", kites.count(11), 1);
        due.is("at 9999", kites.pass(1), 1);
        due.is("gone", kites.count(11), 0);
        due.is("its minute", kites.tangle(0, 0), 9999);
    }

    // The minute of a trade is a minute, too.
    private static void turnIsDoneInATrade() {
        KiteWords kites = Due.withRow("a1,b1,c9,d1");
        kites.planTurn(1, 1, 5);
        due.is("the trade itself tangles nobody", kites.trade(0), 0);
        due.is("the turn is gone", kites.count(11), 0);
        due.is("c with d", kites.flier(2, 4), 3);
        due.is("at 1", kites.tangle(0, 0), 1);
    }

    private static void turnOfTheSameWind() {
        KiteWords kites = Due.withRow("a9,b1");
        kites.planTurn(1, 0, 1);
        due.is("nobody is tangled", kites.pass(1), 0);
        due.is("it is done", kites.count(11), 0);
    }

    // "then all that are tangled have one minute less; then, if the plan has a turn ... (any more, or by that already)"
    private static void minuteFreesAheadOfItsTurn() {
        for (int minute = 1; minute <= 4; minute++) {
            KiteWords kites = Due.withRow("a9,b1");
            kites.planTurn(minute, 1, 0);
            kites.wind(1, 5);
            due.is("turned back at " + minute, kites.pass(minute), minute < 3 ? 0 : 1);
            due.is("minutes left at " + minute, kites.flier(0, 5), minute < 3 ? 3 - minute : 3);
        }
    }

    // "minute: 1 to 9999"
    private static void minutesOfPlan() {
        int[] allowed = {1, 2, 9998, 9999};
        for (int minute : allowed) {
            KiteWords kites = new KiteWords();
            due.is("planTurn(" + minute + ")", kites.planTurn(minute, 1, 1), 1);
            due.is("its minute", kites.turnOf(0, 0), minute);
        }
        int[] bad = {0, -1, -9999, 10000, 10001, Integer.MIN_VALUE, Integer.MAX_VALUE, (1 << 16) + 1, (1 << 31) + 1};
        for (int minute : bad) {
            KiteWords kites = new KiteWords();
            due.is("planTurn(" + minute + ")", kites.planTurn(minute, 1, 1), Due.BAD_VALUE);
            due.is("no turn", kites.count(11), 0);
        }
    }

    // "NOT_POSSIBLE if the minute is not greater than the count of minutes"
    private static void minuteGreaterThanNow() {
        int[][] cases = {{1, 1, 0}, {1, 2, 1}, {5, 4, 0}, {5, 5, 0}, {5, 6, 1}, {9998, 9998, 0}, {9998, 9999, 1},
            {9999, 9999, 0}, {9999, 1, 0}};
        for (int[] c : cases) {
            KiteWords kites = new KiteWords();
            Due.passTo(kites, c[0]);
            due.is("at " + c[0] + ", planTurn(" + c[1] + ")", kites.planTurn(c[1], 1, 1), c[2] == 1 ? 1 : Due.NOT_POSSIBLE);
            due.is("turns", kites.count(11), c[2]);
        }
    }

    // "at most one for a minute"; "or has a turn"
    private static void oneTurnForAMinute() {
        KiteWords kites = new KiteWords();
        kites.planTurn(10, 1, 1);
        kites.planTurn(20, 1, 1);
        kites.planTurn(30, 1, 1);
        for (int minute = 10; minute <= 30; minute += 10) {
            due.is("the same turn at " + minute, kites.planTurn(minute, 1, 1), Due.NOT_POSSIBLE);
            due.is("another turn at " + minute, kites.planTurn(minute, 2, 3), Due.NOT_POSSIBLE);
        }
        due.is("three still", kites.count(11), 3);
        kites.dropTurn(20);
        due.is("dropped, it has room", kites.planTurn(20, 2, 3), 3);
        due.is("with another side", kites.turnOf(1, 1), 2);
        due.is("a minute beside it", kites.planTurn(21, 2, 3), 4);
    }

    // "The plan has at most 8 turns"; "FULL if there are 8"; "A turn that is done is gone."
    private static void planIsFull() {
        KiteWords kites = new KiteWords();
        for (int turns = 1; turns <= 8; turns++) {
            due.is("turn " + turns, kites.planTurn(turns, 1, 1), turns);
        }
        due.is("the ninth", kites.planTurn(9, 1, 1), Due.FULL);
        due.is("the ninth, the last minute", kites.planTurn(9999, 1, 1), Due.FULL);
        due.is("eight", kites.count(11), 8);
        due.is("one is dropped", kites.dropTurn(4), 7);
        due.is("one has room", kites.planTurn(9, 1, 1), 8);
        due.is("one more has not", kites.planTurn(10, 1, 1), Due.FULL);
        kites.pass(1);
        due.is("one is done", kites.planTurn(10, 1, 1), 8);
        due.is("full again", kites.planTurn(11, 1, 1), Due.FULL);
    }

    // "rank: a rank among the turns of the plan, by their minutes, from 0"
    private static void turnsByTheirMinutes() {
        KiteWords kites = new KiteWords();
        int[] minutes = {50, 10, 9999, 30, 20, 51, 1, 49};
        for (int minute : minutes) {
            kites.planTurn(minute, minute % 4, minute % 6);
        }
        int[] sorted = {1, 10, 20, 30, 49, 50, 51, 9999};
        for (int rank = 0; rank < 8; rank++) {
            due.is("minute of " + rank, kites.turnOf(rank, 0), sorted[rank]);
            due.is("side of " + rank, kites.turnOf(rank, 1), sorted[rank] % 4);
            due.is("strength of " + rank, kites.turnOf(rank, 2), sorted[rank] % 6);
            due.is("what 3 of " + rank, kites.turnOf(rank, 3), Due.BAD_VALUE);
            due.is("what -1 of " + rank, kites.turnOf(rank, -1), Due.BAD_VALUE);
        }
        due.is("rank 8", kites.turnOf(8, 0), Due.NONE);
        due.is("the greatest rank", kites.turnOf(Integer.MAX_VALUE, 2), Due.NONE);
        due.is("rank -1", kites.turnOf(-1, 0), Due.BAD_VALUE);
        due.is("the least rank", kites.turnOf(Integer.MIN_VALUE, 0), Due.BAD_VALUE);
        due.is("the least what", kites.turnOf(0, Integer.MIN_VALUE), Due.BAD_VALUE);
        due.is("the greatest what", kites.turnOf(0, Integer.MAX_VALUE), Due.BAD_VALUE);
        kites.dropTurn(9999);
        due.is("rank 7 of seven", kites.turnOf(7, 0), Due.NONE);
        due.is("rank 6 of seven", kites.turnOf(6, 0), 51);
    }

    private static void emptyPlan() {
        KiteWords kites = new KiteWords();
        for (int what = 0; what < 3; what++) {
            due.is("empty: turnOf(0, " + what + ")", kites.turnOf(0, what), Due.NONE);
            due.is("empty: turnOf(-1, " + what + ")", kites.turnOf(-1, what), Due.BAD_VALUE);
        }
        due.is("empty: turnOf(0, 3)", kites.turnOf(0, 3), Due.BAD_VALUE);
        // A turn that is not there is 0, 0, 0 for none of these.
        for (int minute : new int[] {0, 1, -1, 9999, Integer.MIN_VALUE, Integer.MAX_VALUE}) {
            due.is("empty: dropTurn(" + minute + ")", kites.dropTurn(minute), Due.UNKNOWN);
        }
        kites.planTurn(1, 1, 1);
        due.is("the only one", kites.dropTurn(1), 0);
        due.is("empty again", kites.dropTurn(1), Due.UNKNOWN);
        due.is("turnOf(0, 0)", kites.turnOf(0, 0), Due.NONE);
        kites.planTurn(2, 1, 1);
        kites.pass(2);
        due.is("a turn that is done", kites.dropTurn(2), Due.UNKNOWN);
    }

    // "Returns how many turns are left; UNKNOWN if it has none."
    private static void dropTurnOfAnyRank() {
        for (int dropped = 0; dropped < 8; dropped++) {
            KiteWords kites = new KiteWords();
            for (int turn = 0; turn < 8; turn++) {
                kites.planTurn(10 + 10 * turn, turn % 4, turn % 6);
            }
            int minute = 10 + 10 * dropped;
            due.is("a minute ahead", kites.dropTurn(minute - 1), Due.UNKNOWN);
            due.is("a minute behind", kites.dropTurn(minute + 1), Due.UNKNOWN);
            due.is("dropTurn(" + minute + ")", kites.dropTurn(minute), 7);
            due.is("dropTurn(" + minute + ") again", kites.dropTurn(minute), Due.UNKNOWN);
            for (int rank = 0; rank < 7; rank++) {
                int turn = rank < dropped ? rank : rank + 1;
                due.is("minute of " + rank, kites.turnOf(rank, 0), 10 + 10 * turn);
                due.is("side of " + rank, kites.turnOf(rank, 1), turn % 4);
                due.is("strength of " + rank, kites.turnOf(rank, 2), turn % 6);
            }
        }
    }

    // "The crowd stands in the south (at first) or in the north"; "NONE if it stands there already"
    private static void crowdOnBothSides() {
        KiteWords kites = Due.withRow("a1,b1");
        due.is("in the south", kites.count(4), 0);
        due.is("crowd(false)", kites.crowd(false), Due.NONE);
        due.is("crowd(true)", kites.crowd(true), 2);
        due.is("in the north", kites.count(4), 1);
        due.is("crowd(true) again", kites.crowd(true), Due.NONE);
        due.is("crowd(false)", kites.crowd(false), 2);
        due.is("in the south", kites.count(4), 0);
        due.is("three acts", kites.count(12), 3);
    }

    // setTangle: "minutes: 1 to 9"
    private static void minutesOfSetTangle() {
        for (int minutes = -300; minutes <= 300; minutes++) {
            boolean isAllowed = minutes >= 1 && minutes <= 9;
            KiteWords kites = new KiteWords();
            int answer = !isAllowed ? Due.BAD_VALUE : minutes == 3 ? Due.NONE : 3;
            due.is("setTangle(" + minutes + ")", kites.setTangle(minutes), answer);
            due.is("setTangle(" + minutes + "), history", kites.count(12), answer == 3 ? 1 : 0);
            if (isAllowed) {
                due.is("setTangle(" + minutes + ") again", kites.setTangle(minutes), Due.NONE);
                due.is("from " + minutes, kites.setTangle(minutes == 9 ? 1 : 9), minutes);
            }
        }
        for (int minutes : FAR) {
            due.is("setTangle(" + minutes + ")", new KiteWords().setTangle(minutes), Due.BAD_VALUE);
        }
    }

    // "with each minute that passes there is one less, and at 0 they are not tangled any more"
    private static void minutesOfATangle() {
        for (int minutes = 1; minutes <= 9; minutes++) {
            KiteWords kites = Due.withRow("a9,b1");
            kites.setTangle(minutes);
            kites.wind(1, 5);
            for (int left = minutes; left > 0; left--) {
                due.is("of " + minutes + ", left", kites.flier(0, 5), left);
                due.is("of " + minutes + ", left of the other", kites.flier(1, 5), left);
                due.is("of " + minutes + ", trade with " + left, kites.trade(0), Due.NOT_POSSIBLE);
                due.is("of " + minutes + ", read with " + left, kites.count(5), 0);
                kites.pass(1);
            }
            due.is("of " + minutes + ", none left", kites.flier(0, 5), 0);
            due.is("of " + minutes + ", free", kites.flier(1, 4), Due.NONE);
            due.is("of " + minutes + ", read", kites.count(5), 2);
            due.is("of " + minutes + ", trade", kites.trade(0), 1);
        }
    }

    // "those who are tangled by a later tangle"
    private static void onlyLaterTangles() {
        KiteWords kites = Due.withRow("a9,b1,c1,d1");
        kites.wind(1, 5);
        kites.setTangle(9);
        due.is("the earlier one", kites.flier(0, 5), 3);
        kites.pay(2, 9);
        kites.wind(1, 0);
        due.is("the later one", kites.flier(2, 5), 9);
        due.is("the earlier one still", kites.flier(0, 5), 3);
        kites.pass(3);
        due.is("the earlier is over", kites.flier(0, 4), Due.NONE);
        due.is("the later is not", kites.flier(2, 5), 6);
    }

    private static void logIsEmpty() {
        KiteWords kites = Due.withRow("a1,b1");
        kites.trade(0);
        for (int what = 0; what < 4; what++) {
            due.is("empty: tangle(0, " + what + ")", kites.tangle(0, what), Due.NONE);
        }
        due.is("empty: far back", kites.tangle(Integer.MAX_VALUE, 0), Due.NONE);
        due.is("empty: tangle(-1, 0)", kites.tangle(-1, 0), Due.BAD_VALUE);
        due.is("empty: tangle(0, 4)", kites.tangle(0, 4), Due.BAD_VALUE);
        due.is("empty: tangles", kites.count(10), 0);
    }

    // "Looks back at the latest 8 tangles."
    private static void logIsFull() {
        KiteWords kites = Due.withRow("a9,b1");
        kites.setTangle(1);
        for (int tangles = 1; tangles <= 20; tangles++) {
            kites.wind(1, tangles % 2 * 5);
            due.is("tangles so far", kites.count(10), tangles);
            int told = Math.min(tangles, 8);
            due.is("the latest of " + tangles, kites.tangle(0, 0), tangles - 1);
            due.is("the oldest of " + tangles, kites.tangle(told - 1, 0), tangles - told);
            due.is("one more of " + tangles, kites.tangle(told, 0), Due.NONE);
            kites.pass(1);
        }
    }

    // "(of a trade the count ahead of its minute)"; "the one that stood west (behind a trade) first"
    private static void logOfTrades() {
        KiteWords kites = new KiteWords();
        kites.setTangle(1);
        kites.wind(1, 5);
        Due.write(kites, "a9,b1");
        kites.readRow();
        for (int minute = 0; minute < 9; minute++) {
            due.is("trade at " + minute, kites.trade(0), 1);
            due.is("its minute", kites.tangle(0, 0), minute);
            due.is("west of " + minute, kites.tangle(0, 1), minute % 2 == 0 ? 1 : 0);
            due.is("east of " + minute, kites.tangle(0, 2), minute % 2 == 0 ? 0 : 1);
            due.is("a trade at " + minute, kites.tangle(0, 3), 1);
        }
        due.is("eight back", kites.tangle(7, 0), 1);
        due.is("not nine", kites.tangle(8, 0), Due.NONE);
        Due.passTo(kites, 9998);
        kites.trade(0);
        due.is("the last one", kites.tangle(0, 0), 9998);
    }

    // "0 for the latest one, 1 for the one before, and so on": each with fliers of its own
    private static void logOfSeveralPairs() {
        KiteWords kites = Due.withRow("a9,b1,c9,d1,e9,f1,g9,h1,i9,j1");
        kites.setTangle(1);
        due.is("five pairs by the wind", kites.wind(1, 5), 5);
        kites.pass(1);
        int[][] told = {{4, 9, 8, 1}, {3, 3, 2, 1}, {2, 1, 0, 1}, {1, 5, 4, 1}, {0, 8, 9, 0}, {0, 6, 7, 0}, {0, 4, 5, 0},
            {0, 2, 3, 0}, {0, 0, 1, 0}};
        int[] places = {4, 0, 2, 8};
        for (int trades = 0; trades <= 4; trades++) {
            for (int back = 0; back < 8; back++) {
                int tangle = 4 - trades + back;
                for (int what = 0; what < 4; what++) {
                    due.is("behind " + trades + " trades, tangle(" + back + ", " + what + ")", kites.tangle(back, what),
                            tangle < told.length ? told[tangle][what] : Due.NONE);
                }
            }
            due.is("no ninth", kites.tangle(8, 0), Due.NONE);
            if (trades < 4) {
                due.is("a trade at " + places[trades], kites.trade(places[trades]), 1);
            }
        }
    }

    // "BAD_VALUE (back is negative, or what)"
    private static void logWhat() {
        KiteWords kites = Due.withRow("a9,b1");
        kites.wind(1, 5);
        int[] told = {0, 0, 1, 0};
        for (int what = -20; what <= 20; what++) {
            boolean isKnown = what >= 0 && what <= 3;
            due.is("tangle(0, " + what + ")", kites.tangle(0, what), isKnown ? told[what] : Due.BAD_VALUE);
            due.is("tangle(1, " + what + ")", kites.tangle(1, what), isKnown ? Due.NONE : Due.BAD_VALUE);
        }
        for (int far : FAR) {
            due.is("tangle(0, " + far + ")", kites.tangle(0, far), Due.BAD_VALUE);
            due.is("tangle(" + far + ", 0)", kites.tangle(far, 0), far < 0 ? Due.BAD_VALUE : Due.NONE);
        }
    }
}

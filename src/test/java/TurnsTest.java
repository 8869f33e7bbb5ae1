/** Promises 5 to 8 and 16: begin, finish, endTurn, delay, turn. */
public final class TurnsTest {
    public static void main(String[] args) {
        drawsAndScores();
        tiesByBonusThenNumber();
        drawsForManySeeds();
        beginRefusals();
        rounds();
        finishEnds();
        turnSelectors();
        addedInAnEncounter();
        delays();
        delayStartsATurn();
        delayRefusals();
        downFightersHaveTurns();
        Due.end("TurnsTest");
    }

    private static EncounterLedger three(int first, int second, int third) {
        EncounterLedger x = new EncounterLedger();
        x.add(0, 0, 20, 0, 3);
        x.add(1, 9, 20, 0, 4);
        x.add(0, 90, 20, 0, 5);
        x.begin(Due.seed(first, second, third));
        return x;
    }

    private static void order(String what, EncounterLedger x, int... due) {
        for (int place = 0; place < due.length; place++) {
            Due.is(what + ", place " + place, x.turn(10 + place), due[place]);
            Due.is(what + ", place of " + due[place], x.fighter(due[place], 7), place);
        }
        Due.is(what + ", behind the last", x.turn(10 + due.length), -5);
    }

    private static void drawsAndScores() {
        EncounterLedger x = new EncounterLedger();
        x.add(0, 0, 20, -5, 3);
        x.add(1, 9, 20, 9, 4);
        x.add(0, 90, 20, 0, 5);
        Due.is("begin", x.begin(Due.seed(20, 1, 16)), 2);
        Due.is("score of 0", x.fighter(0, 8), 15);
        Due.is("score of 1", x.fighter(1, 8), 10);
        Due.is("score of 2", x.fighter(2, 8), 16);
        order("by scores", x, 2, 0, 1);
        Due.is("encounters", x.account(6), 1);
        Due.is("turns", x.account(7), 1);
    }

    private static void tiesByBonusThenNumber() {
        EncounterLedger x = new EncounterLedger();
        x.add(0, 0, 20, 1, 3);
        x.add(1, 9, 20, 3, 4);
        x.add(0, 90, 20, 1, 5);
        x.begin(Due.seed(12, 10, 12));
        order("like scores", x, 1, 0, 2);
        EncounterLedger y = new EncounterLedger();
        y.add(0, 0, 20, 1, 3);
        y.add(1, 9, 20, 2, 4);
        y.begin(Due.seed(12, 11));
        order("bonuses that differ by 1", y, 1, 0);
    }

    private static void drawsForManySeeds() {
        int[] seeds = {0, 1, -1, 7, 123456789, Integer.MAX_VALUE, Integer.MIN_VALUE};
        for (int seed : seeds) {
            EncounterLedger x = new EncounterLedger();
            for (int i = 0; i < 8; i++) {
                x.add(i % 2, i, 9, i - 5, 1);
            }
            x.begin(seed);
            int z = seed;
            for (int i = 0; i < 8; i++) {
                z = z * 1103515245 + 12345;
                Due.is("score with seed " + seed, x.fighter(i, 8), i - 5 + 1 + (z >>> 16) % 20);
            }
            for (int place = 1; place < 8; place++) {
                int ahead = x.turn(9 + place);
                int behind = x.turn(10 + place);
                int byScore = x.fighter(ahead, 8) - x.fighter(behind, 8);
                Due.holds("order with seed " + seed, byScore > 0 || byScore == 0 && ahead > behind);
            }
        }
    }

    private static void beginRefusals() {
        EncounterLedger x = new EncounterLedger();
        Due.refused("no fighters", x, x.begin(1), 10);
        x.add(0, 0, 20, 0, 3);
        Due.is("begin", x.begin(1), 0);
        Due.refused("a second one", x, x.begin(1), 2);
    }

    private static void rounds() {
        EncounterLedger x = three(3, 2, 1);
        Due.is("round", x.turn(0), 1);
        Due.is("endTurn", x.endTurn(), 1);
        Due.is("endTurn", x.endTurn(), 2);
        Due.is("round", x.turn(0), 1);
        Due.is("endTurn", x.endTurn(), 0);
        Due.is("round", x.turn(0), 2);
        Due.is("turns", x.account(7), 4);
        int[][] due = {{8, 0, 1}, {9, 0, 1}, {8, 1, 1}, {9, 1, 1}, {8, 2, 1}, {9, 2, 1}, {8, 0, 2}};
        for (int i = 0; i < due.length; i++) {
            for (int what = 0; what < 3; what++) {
                Due.is("entry", x.entry(3 + i, what), due[i][what]);
            }
        }
        Due.is("entries", x.entry(-1, 0), 10);
    }

    private static void finishEnds() {
        EncounterLedger x = three(3, 2, 1);
        for (int i = 0; i < 7; i++) {
            x.endTurn();
        }
        Due.is("finish", x.finish(), 3);
        Due.is("no end of the turn", x.entry(x.entry(-1, 0) - 1, 0), 8);
        Due.is("round", x.turn(0), 0);
        for (int what : new int[] {1, 2, 3, 10, 11}) {
            Due.is("turn(" + what + ")", x.turn(what), -5);
        }
        Due.is("place", x.fighter(0, 7), -5);
        Due.is("score", x.fighter(0, 8), -5);
        Due.refused("finish", x, x.finish(), 1);
        int first = x.begin(4);
        Due.is("the first of the new order", first, x.turn(10));
        Due.is("whose turn it is", x.turn(1), first);
        Due.refused("begin", x, x.begin(4), 2);
        x.finish();
        Due.refused("endTurn", x, x.endTurn(), 1);
        Due.is("encounters", x.account(6), 2);
    }

    private static void turnSelectors() {
        EncounterLedger x = new EncounterLedger();
        int[] invalid = {-1, 4, 9, Integer.MIN_VALUE};
        for (int what : invalid) {
            Due.is("turn without an encounter", x.turn(what), EncounterLedger.NONE);
        }
        x = three(3, 2, 1);
        for (int what : invalid) {
            Due.is("turn in an encounter", x.turn(what), EncounterLedger.NONE);
        }
        Due.is("whose turn", x.turn(1), 0);
        Due.is("steps", x.turn(2), 3);
        Due.is("acted", x.turn(3), 0);
        Due.is("far place", x.turn(Integer.MAX_VALUE), -5);
        Due.read(x, 0, "s0:m1");
        x.cast(0, 55, 0);
        Due.is("acted", x.turn(3), 1);
        x.endTurn();
        Due.is("acted", x.turn(3), 0);
    }

    private static void addedInAnEncounter() {
        EncounterLedger x = three(3, 2, 1);
        Due.is("add", x.add(1, 50, 9, 9, 9), 3);
        Due.is("no place", x.fighter(3, 7), -5);
        Due.is("no score", x.fighter(3, 8), -5);
        order("without it", x, 0, 1, 2);
        Due.refused("delay behind it", x, x.delay(3), 11);
        Due.is("endTurn", x.endTurn(), 1);
        Due.is("endTurn", x.endTurn(), 2);
        Due.is("endTurn", x.endTurn(), 0);
        x.finish();
        x.begin(3);
        Due.holds("it has a place in the next one", x.fighter(3, 7) >= 0);
    }

    private static void delays() {
        EncounterLedger x = three(3, 2, 1);
        Due.is("delay behind the last", x.delay(2), 1);
        order("delayed", x, 1, 2, 0);
        Due.is("round", x.turn(0), 1);
        Due.is("endTurn", x.endTurn(), 2);
        Due.is("endTurn", x.endTurn(), 0);
        Due.is("round", x.turn(0), 1);
        Due.is("endTurn", x.endTurn(), 1);
        Due.is("round", x.turn(0), 2);
        Due.is("delay behind the next", x.delay(2), 2);
        order("delayed again", x, 2, 1, 0);
        Due.is("endTurn", x.endTurn(), 1);
        Due.is("delay in the middle", x.delay(0), 0);
        order("delayed in the middle", x, 2, 0, 1);
    }

    private static void delayStartsATurn() {
        EncounterLedger x = three(3, 2, 1);
        x.move(1);
        Due.is("delay behind a move", x.delay(1), 1);
        Due.is("turns", x.account(7), 2);
        Due.is("the latest entry is a begin", x.entry(x.entry(-1, 0) - 1, 0), 8);
        Due.is("and no end is ahead of it", x.entry(x.entry(-1, 0) - 2, 0), 7);
        Due.is("steps of the next", x.turn(2), 4);
        Due.is("endTurn", x.endTurn(), 0);
        Due.is("fresh steps", x.turn(2), 3);
        Due.is("turns of 0", x.replayed(0, 4), 2);
    }

    private static void delayRefusals() {
        EncounterLedger x = new EncounterLedger();
        Due.is("no fighter", x.delay(0), EncounterLedger.NONE);
        x.add(0, 0, 20, 0, 3);
        Due.refused("no encounter", x, x.delay(0), 1);
        x = three(3, 2, 1);
        Due.is("no fighter", x.delay(-1), EncounterLedger.NONE);
        Due.is("no fighter", x.delay(3), EncounterLedger.NONE);
        Due.refused("behind itself", x, x.delay(0), 11);
        Due.read(x, 0, "s0:m1");
        Due.read(x, 1, "s0:k1101");
        x.cast(1, 9, 0);
        Due.refused("acted, behind itself", x, x.delay(0), 4);
        x.endTurn();
        Due.refused("stunned, behind an earlier one", x, x.delay(0), 3);
        x.endTurn();
        Due.refused("behind an earlier one", x, x.delay(1), 11);
    }

    private static void downFightersHaveTurns() {
        EncounterLedger x = new EncounterLedger();
        Due.read(x, 0, "s0:h99");
        x.add(0, 0, 20, 9, 3);
        x.add(1, 9, 20, 0, 4);
        x.begin(Due.seed(20, 1));
        x.cast(0, 9, 0);
        Due.is("the turn of one down", x.endTurn(), 1);
        Due.refused("it cannot strike", x, x.strike(0), 3);
        Due.refused("it cannot delay", x, x.delay(0), 3);
        Due.is("only ended", x.endTurn(), 0);
        x.finish();
        Due.is("down ones begin too", x.begin(Due.seed(1, 20)), 1);
    }
}

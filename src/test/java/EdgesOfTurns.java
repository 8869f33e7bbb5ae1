import java.math.BigInteger;

/** The edges of promises 5 to 8 and 16, and of what the document says of draws and encounters. */
final class EdgesOfTurns {
    private static final BigInteger WRAP = BigInteger.ONE.shiftLeft(32);

    private EdgesOfTurns() {
    }

    static void run() {
        draws();
        beginning();
        orders();
        rounds();
        turnsBegin();
        poisons();
        turnsEnd();
        finishing();
        ending();
        delaying();
        errorsOfDelay();
        turnNumbers();
        errorsOfTurn();
    }

    /** Three fighters with the bonus 0, on 0, 9 and 90, with the speeds 3, 4 and 5; 0 and 2 are of one side. */
    private static EncounterLedger three(int... draws) {
        EncounterLedger x = new EncounterLedger();
        Edge.read(x, "s0:m1", "s0:k1139", "s0:h99");
        x.add(0, 0, 20, 0, 3);
        x.add(1, 9, 20, 0, 4);
        x.add(0, 90, 20, 0, 5);
        x.begin(Due.seed(draws));
        return x;
    }

    /** The draw by numbers that know no overflow. */
    private static int[] drawsOf(int seed) {
        int[] draws = new int[8];
        BigInteger z = BigInteger.valueOf(seed);
        for (int i = 0; i < draws.length; i++) {
            z = z.multiply(BigInteger.valueOf(1103515245)).add(BigInteger.valueOf(12345)).mod(WRAP);
            draws[i] = 1 + z.shiftRight(16).intValue() % 20;
        }
        return draws;
    }

    private static void compareDraws(EncounterLedger x, int seed) {
        x.begin(seed);
        int[] due = drawsOf(seed);
        for (int i = 0; i < 8; i++) {
            Due.is("score of " + i + " by the seed " + seed, x.fighter(i, 8), due[i]);
        }
        x.finish();
    }

    private static void draws() {
        Edge.says("Draws", "A draw makes z, which is 0 at first, z * 1103515245 + 12345, with overflow, and gives "
            + "1 + (z >>> 16) % 20.", () -> {
                int[] seeds = {0, 1, -1, 2, 65535, 65536, -65536, 123456789, Integer.MAX_VALUE, Integer.MIN_VALUE,
                    Integer.MAX_VALUE - 1, Integer.MIN_VALUE + 1, 1 << 30, -(1 << 30)};
                for (int seed : seeds) {
                    EncounterLedger x = new EncounterLedger();
                    for (int i = 0; i < 8; i++) {
                        x.add(i % 2, i, 9, 0, 1);
                    }
                    compareDraws(x, seed);
                    compareDraws(x, seed + 1);
                    compareDraws(x, seed);
                }
            });
    }

    private static void beginning() {
        Edge.says("5", "Begins an encounter; the first turn begins.", () -> {
            EncounterLedger x = Edge.paired();
            int before = x.entry(-1, 0);
            x.begin(Edge.HERO_FIRST);
            Due.is("round", x.turn(0), 1);
            Due.is("encounters", x.account(6), 1);
            Due.is("turns", x.account(7), 1);
            Edge.entries(x, before, 8, 0, 1);
        });
        Edge.says("5", "`seed`: any number, which z becomes first", () -> {
            EncounterLedger x = new EncounterLedger();
            for (int i = 0; i < 8; i++) {
                x.add(i % 2, i, 9, 0, 1);
            }
            for (int seed : new int[] {Integer.MIN_VALUE, -1, 0, 1, Integer.MAX_VALUE}) {
                compareDraws(x, seed);
            }
        });
        Edge.says("5", "Returns the fighter whose turn it is", () -> {
            EncounterLedger x = Edge.paired();
            Due.is("begin", x.begin(Due.seed(1, 20)), 1);
            Due.is("turn(1)", x.turn(1), 1);
            EncounterLedger y = new EncounterLedger();
            y.add(1, 0, 1, -5, 1);
            Due.is("with one fighter", y.begin(0), 0);
        });
        Edge.says("5", "STATE with the reason 2 or 10.", () -> {
            Edge.state("begin in an encounter", Edge::fight, x -> x.begin(1), 2);
            Edge.state("begin without fighters", x -> { }, x -> x.begin(1), 10);
            Edge.state("begin on walls alone", x -> x.wall(0), x -> x.begin(0), 10);
        });
        Edge.says("Encounters", "An encounter begins with all fighters, down ones included.", () -> {
            EncounterLedger x = Edge.fighting("s0:h99");
            Edge.castOn(x, 0, 1);
            x.finish();
            Due.is("one down can come first", x.begin(Due.seed(1, 20)), 1);
            Edge.order(x, 1, 0);
            EncounterLedger y = new EncounterLedger();
            for (int i = 0; i < 8; i++) {
                y.add(0, i, 5, 0, 1);
            }
            y.begin(3);
            Due.holds("all eight have places", y.turn(17) >= 0 && y.turn(18) == -5);
        });
        Edge.says("Encounters", "Each fighter, in ascending order, has a score: its bonus plus a draw.", () -> {
            EncounterLedger x = new EncounterLedger();
            x.add(0, 0, 20, -5, 3);
            x.add(1, 9, 20, 9, 4);
            x.add(0, 90, 20, 2, 5);
            x.begin(Due.seed(7, 20, 1));
            Due.is("score of 0", x.fighter(0, 8), 2);
            Due.is("score of 1", x.fighter(1, 8), 29);
            Due.is("score of 2", x.fighter(2, 8), 3);
            Edge.order(x, 1, 2, 0);
        });
    }

    private static EncounterLedger withBonuses(int first, int second, int third, int... draws) {
        EncounterLedger x = new EncounterLedger();
        x.add(0, 0, 20, first, 3);
        x.add(1, 9, 20, second, 4);
        x.add(0, 90, 20, third, 5);
        x.begin(Due.seed(draws));
        return x;
    }

    private static void orders() {
        Edge.says("Encounters", "The order of turns is by descending scores", () -> {
            Edge.order(withBonuses(0, 0, 0, 4, 5, 6), 2, 1, 0);
            Edge.order(withBonuses(9, 0, -5, 1, 11, 17), 2, 1, 0);
            Edge.order(withBonuses(0, 0, 0, 20, 19, 18), 0, 1, 2);
        });
        Edge.says("Encounters", "of like ones by descending bonuses", () -> {
            Edge.order(withBonuses(1, 2, 3, 12, 11, 10), 2, 1, 0);
            Edge.order(withBonuses(3, 1, 2, 10, 12, 11), 0, 2, 1);
            Edge.order(withBonuses(-5, 9, 0, 20, 6, 15), 1, 2, 0);
        });
        Edge.says("Encounters", "of like ones by ascending numbers", () -> {
            Edge.order(withBonuses(2, 2, 2, 7, 7, 7), 0, 1, 2);
            Edge.order(withBonuses(1, 2, 1, 8, 7, 8), 1, 0, 2);
            Edge.order(withBonuses(1, 1, 2, 8, 8, 8), 2, 0, 1);
        });
        Edge.says("Encounters", "it stays so until the encounter ends, apart from delays.", () -> {
            EncounterLedger x = three(3, 2, 1);
            for (int i = 0; i < 7; i++) {
                x.endTurn();
            }
            Edge.order(x, 0, 1, 2);
            x.delay(2);
            Edge.order(x, 0, 2, 1);
            for (int i = 0; i < 7; i++) {
                x.endTurn();
            }
            Edge.order(x, 0, 2, 1);
            x.finish();
            x.begin(Due.seed(3, 2, 1));
            Edge.order(x, 0, 1, 2);
        });
    }

    private static void rounds() {
        Edge.says("Encounters", "The turns of an encounter go through this order again and again", () -> {
            EncounterLedger x = three(2, 3, 1);
            int[] due = {0, 2, 1, 0, 2, 1, 0, 2};
            for (int fighter : due) {
                Due.is("endTurn", x.endTurn(), fighter);
            }
        });
        Edge.says("Encounters", "each time through is a round, from 1 on.", () -> {
            EncounterLedger x = three(2, 3, 1);
            for (int turns = 0; turns < 12; turns++) {
                Due.is("round behind " + turns + " turns", x.turn(0), 1 + turns / 3);
                x.endTurn();
            }
        });
        Edge.says("Encounters", "It is the turn of one fighter after another", () -> {
            EncounterLedger x = three(2, 3, 1);
            Due.is("turn(1)", x.turn(1), 1);
            Due.refused("another one cannot be struck from afar", x, x.strike(0), 7);
            x.endTurn();
            Due.is("turn(1)", x.turn(1), 0);
            Due.is("the moves are its own", x.move(1), 2);
            Due.is("its cell", x.fighter(0, 1), 1);
        });
        Edge.says("Encounters", "the turn of a fighter that is down or cannot act passes like others, but it can only "
            + "be ended.", () -> {
                for (int power = 1; power <= 2; power++) {
                    EncounterLedger x = three(3, 2, 1);
                    x.cast(power, 9, 0);
                    Due.is("its turn comes", x.endTurn(), 1);
                    Due.refused("move", x, x.move(8), 3);
                    Due.refused("strike", x, x.strike(0), 3);
                    Due.refused("cast", x, x.cast(0, 9, 0), 3);
                    Due.refused("delay", x, x.delay(2), 3);
                    Due.is("it ends", x.endTurn(), 2);
                }
            });
        Edge.says("Encounters", "A fighter that is added in an encounter has no turns in it.", () -> {
            EncounterLedger x = three(3, 2, 1);
            Due.is("add", x.add(1, 50, 9, 9, 9), 3);
            Edge.order(x, 0, 1, 2);
            int[] due = {1, 2, 0, 1, 2, 0};
            for (int fighter : due) {
                Due.is("endTurn", x.endTurn(), fighter);
            }
            x.finish();
            x.begin(Due.seed(3, 2, 1, 20));
            Edge.order(x, 3, 0, 1, 2);
        });
    }

    private static void turnsBegin() {
        Edge.says("Encounters", "When a turn begins: first the conditions that the fighter has made with the end 1 lose "
            + "one of their count, each one whose count is 0 then ends", () -> {
                for (int count = 1; count <= 9; count++) {
                    EncounterLedger x = Edge.fighting("s0:k411" + count + ",k5139");
                    Edge.castOn(x, 0, 1);
                    for (int turn = 1; turn < count; turn++) {
                        x.endTurn();
                        Due.is("not by turns of others", x.condition(0, 5), count - turn + 1);
                        x.endTurn();
                        Due.is("count left", x.condition(0, 5), count - turn);
                    }
                    x.endTurn();
                    Due.is("there still", x.condition(-1, 0), 2);
                    x.endTurn();
                    Due.is("ended, but not the one with another end", x.condition(-1, 0), 1);
                    Edge.condition(x, 0, 5, 1, 0, 1, 3, 9);
                }
            });
        Edge.says("Encounters", "first the conditions that the fighter has made", () -> {
            EncounterLedger x = Edge.fighting("s5:k3111", "s5:k0139");
            Edge.castOn(x, 0, 0);
            x.endTurn();
            Edge.castOn(x, 1, 0);
            int before = x.entry(-1, 0);
            x.endTurn();
            Edge.entries(x, before, 9, 1, 1, 8, 0, 2, 4, 0, 3, 1, 0, 1);
        });
        Edge.says("Encounters", "the conditions that the fighter has made with the end 1", () -> {
            EncounterLedger x = Edge.fighting("s5:k4112,k3112");
            Edge.castOn(x, 0, 1);
            x.endTurn();
            Edge.castOn(x, 0, 1);
            Due.is("four", x.condition(-1, 0), 4);
            int[] counts = {2, 2, 2, 2};
            for (int i = 0; i < 4; i++) {
                Due.is("count", x.condition(i, 5), counts[i]);
            }
            x.endTurn();
            int[] later = {1, 1, 2, 2};
            for (int i = 0; i < 4; i++) {
                Due.is("count of a condition by " + x.condition(i, 2), x.condition(i, 5), later[i]);
            }
        });
    }

    /** Heroes on 0 and 5 poison a foe on 9, each with the powers 0 and 1; the foe comes last. */
    private static EncounterLedger poisoners(int life, String first, String second) {
        EncounterLedger x = new EncounterLedger();
        Edge.read(x, first, second, "s0:h99");
        x.add(0, 0, 50, 9, 9);
        x.add(1, 9, life, -5, 9);
        x.add(0, 5, 50, 8, 9);
        x.begin(Due.seed(20, 1, 19));
        x.cast(0, 9, 0);
        x.endTurn();
        x.cast(1, 9, 0);
        return x;
    }

    private static void poisons() {
        Edge.says("Encounters", "then, if the fighter is not down, it is harmed by the value of each condition of kind 0 "
            + "that it has, in the order of the conditions, without marks and shields", () -> {
                EncounterLedger x = poisoners(50, "s0:k0939,k4939", "s0:k0139,k5139");
                int before = x.entry(-1, 0);
                x.endTurn();
                Edge.entries(x, before, 9, 2, 1, 8, 1, 1, 1, 1, 9, 4, 1, 5, 1, 1, 1);
                Due.is("life", x.fighter(1, 2), 40);
                x.endTurn();
                Due.is("none by the turns of others", x.fighter(1, 2), 40);
                EncounterLedger y = Edge.fighting("s5:k0139", "s5:k2939");
                Edge.castOn(y, 0, 1);
                y.endTurn();
                Edge.castOn(y, 1, 1);
                Due.nextTurnOf(y, 1);
                Due.is("without shields", y.fighter(1, 2), 48);
            });
        Edge.says("Encounters", "if the fighter is not down", () -> {
            EncounterLedger x = poisoners(50, "s0:k0939", "s0:h99");
            int before = x.entry(-1, 0);
            Due.is("the turn of one down", x.endTurn(), 1);
            Edge.entries(x, before, 9, 2, 1, 8, 1, 1);
        });
        Edge.says("Encounters", "one that has ended by such harm before does not harm any more.", () -> {
            EncounterLedger x = poisoners(50, "s0:k0939", "s0:k0829");
            x.endTurn();
            Due.is("the first one ends the second", x.fighter(1, 2), 41);
            Due.is("one is left", x.condition(-1, 0), 1);
            EncounterLedger y = poisoners(50, "s0:k0929", "s0:k0839");
            y.endTurn();
            Due.is("the first one ends itself alone", y.fighter(1, 2), 33);
            Due.is("one is left", y.condition(-1, 0), 1);
            EncounterLedger z = poisoners(9, "s0:k0939", "s0:k0839");
            z.endTurn();
            Due.is("down by the first one", z.replayed(1, 1), 1);
            Due.is("none is left", z.condition(-1, 0), 0);
        });
    }

    private static void turnsEnd() {
        Edge.says("Encounters", "When a turn ends: the conditions that the fighter has with the end 0 lose one of their "
            + "count, each one whose count is 0 then ends.", () -> {
                for (int count = 1; count <= 9; count++) {
                    EncounterLedger x = Edge.fighting("s0:k410" + count + ",k5139");
                    Edge.castOn(x, 0, 1);
                    for (int turn = 1; turn <= count; turn++) {
                        x.endTurn();
                        Due.is("not by turns of others", x.condition(0, 5), count - turn + 1);
                        x.endTurn();
                    }
                    Due.is("ended, but not the one with another end", x.condition(-1, 0), 1);
                    Edge.condition(x, 0, 5, 1, 0, 1, 3, 9);
                }
            });
        Edge.says("Encounters", "the conditions that the fighter has with the end 0", () -> {
            EncounterLedger x = Edge.fighting("s5:k4102,k3102");
            Edge.castOn(x, 0, 1);
            x.endTurn();
            Due.is("count of the foe's mark", x.condition(0, 5), 2);
            Due.is("count of the hero's haste", x.condition(1, 5), 1);
        });
    }

    private static void finishing() {
        Edge.says("6", "Ends the encounter, without ending the turn.", () -> {
            EncounterLedger x = Edge.fighting("s5:k3103,k3103");
            int before = x.entry(-1, 0);
            x.finish();
            Due.is("round", x.turn(0), 0);
            Due.is("no entry", x.entry(-1, 0), before);
            Edge.order(x);
        });
        Edge.says("6", "Returns the number of rounds that it had", () -> {
            EncounterLedger x = three(3, 2, 1);
            Due.is("in the first turn", x.finish(), 1);
            x.begin(1);
            x.endTurn();
            x.endTurn();
            Due.is("in the last turn of the first round", x.finish(), 1);
            x.begin(1);
            x.endTurn();
            x.endTurn();
            x.endTurn();
            Due.is("in the first turn of the second round", x.finish(), 2);
        });
        Edge.says("6", "STATE with the reason 1.", () -> {
            Edge.state("finish without an encounter", Edge::pair, EncounterLedger::finish, 1);
            Edge.state("finish without fighters", x -> { }, EncounterLedger::finish, 1);
            Edge.state("finish behind an encounter", x -> {
                Edge.fight(x);
                x.finish();
            }, EncounterLedger::finish, 1);
        });
    }

    private static void ending() {
        Edge.says("7", "Ends the turn; the next one begins.", () -> {
            EncounterLedger x = Edge.fighting();
            int before = x.entry(-1, 0);
            x.endTurn();
            x.endTurn();
            Edge.entries(x, before, 9, 0, 1, 8, 1, 1, 9, 1, 1, 8, 0, 2);
            Due.is("turns", x.account(7), 3);
        });
        Edge.says("7", "Returns the fighter whose turn it is then", () -> {
            EncounterLedger x = new EncounterLedger();
            x.add(0, 0, 20, 0, 3);
            x.begin(1);
            Due.is("one after itself", x.endTurn(), 0);
            Due.is("round", x.turn(0), 2);
            EncounterLedger y = Edge.fighting();
            Due.is("from the first to the last", y.endTurn(), 1);
            Due.is("from the last to the first", y.endTurn(), 0);
        });
        Edge.says("7", "STATE with the reason 1.", () -> {
            Edge.state("endTurn without an encounter", Edge::pair, EncounterLedger::endTurn, 1);
            Edge.state("endTurn without fighters", x -> { }, EncounterLedger::endTurn, 1);
            Edge.state("endTurn behind an encounter", x -> {
                Edge.fight(x);
                x.finish();
            }, EncounterLedger::endTurn, 1);
        });
    }

    private static void delaying() {
        Edge.says("8", "The fighter whose turn it is delays it: its place in the order is directly behind that of another "
            + "one from now on, and the turn of the fighter that was next begins", () -> {
                EncounterLedger x = three(3, 2, 1);
                Due.is("behind the next", x.delay(1), 1);
                Edge.order(x, 1, 0, 2);
                EncounterLedger y = three(3, 2, 1);
                Due.is("behind the last", y.delay(2), 1);
                Edge.order(y, 1, 2, 0);
                y.endTurn();
                Due.is("in the middle of the order", y.delay(0), 0);
                Edge.order(y, 1, 0, 2);
                Due.is("round", y.turn(0), 1);
            });
        Edge.says("8", "the turn of the one that delays does not end.", () -> {
            EncounterLedger x = three(3, 2, 1);
            Due.read(x, 3, "s0:k3101");
            x.endTurn();
            x.endTurn();
            Due.is("haste for the first one", x.cast(3, 0, 0), 1);
            x.endTurn();
            int before = x.entry(-1, 0);
            x.delay(1);
            Edge.entries(x, before, 8, 1, 2);
            Due.is("a delay does not count as an end", x.fighter(0, 33), 1);
            x.endTurn();
            Due.is("nor does the new beginning", x.fighter(0, 33), 1);
            x.endTurn();
            Due.is("an end does", x.fighter(0, 33), 0);
        });
        Edge.says("8", "When its turn comes again, it begins like any other.", () -> {
            EncounterLedger x = three(3, 2, 1);
            x.move(1);
            Due.is("steps", x.turn(2), 2);
            x.delay(2);
            x.endTurn();
            int before = x.entry(-1, 0);
            Due.is("it comes again in this round", x.endTurn(), 0);
            Edge.entries(x, before, 9, 2, 1, 8, 0, 1);
            Due.is("fresh steps", x.turn(2), 3);
            Due.is("not acted", x.turn(3), 0);
            Due.is("turns", x.account(7), 4);
            Due.is("behind the last of the round", x.endTurn(), 1);
            Due.is("round", x.turn(0), 2);
        });
        Edge.says("8", "Returns the fighter whose turn it is then", () -> {
            EncounterLedger x = three(1, 2, 3);
            Due.is("delay", x.delay(0), 1);
            Due.is("turn(1)", x.turn(1), 1);
            Due.is("place 0", x.fighter(1, 7), 0);
            Due.is("delay", x.delay(0), 0);
            Due.is("delay", x.delay(2), 1);
            Edge.order(x, 1, 2, 0);
        });
    }

    private static void errorsOfDelay() {
        Edge.says("8", "`other`: the other fighter", () -> {
            for (int other : Edge.outside(0, 1)) {
                Edge.error("delay(" + other + ")", Edge::fight, x -> x.delay(other), Edge.NONE);
            }
        });
        Edge.says("8", "NONE if there is no such fighter", () -> {
            Edge.error("without fighters", x -> { }, x -> x.delay(0), Edge.NONE);
            Edge.error("NONE is ahead of STATE", Edge::pair, x -> x.delay(2), Edge.NONE);
        });
        Edge.says("8", "STATE with the reason 1, 3, 4 or 11.", () -> {
            Edge.state("no encounter, behind itself", Edge::pair, x -> x.delay(0), 1);
            Edge.state("cannot act, behind itself", x -> {
                Edge.read(x, "s0:k1139");
                Edge.fight(x);
                x.cast(0, 45, 0);
                x.endTurn();
            }, x -> x.delay(1), 3);
            Edge.state("has acted, behind a later one", x -> {
                Edge.fight(x);
                x.strike(1);
            }, x -> x.delay(1), 4);
            Edge.state("has acted, behind itself", x -> {
                Edge.fight(x);
                x.strike(1);
            }, x -> x.delay(0), 4);
            Edge.state("behind itself", Edge::fight, x -> x.delay(0), 11);
            Edge.state("the last one behind an earlier one", x -> {
                Edge.fight(x);
                x.endTurn();
            }, x -> x.delay(0), 11);
            Edge.state("behind one without turns", x -> {
                Edge.fight(x);
                x.add(0, 0, 5, 0, 1);
            }, x -> x.delay(2), 11);
        });
    }

    private static void turnNumbers() {
        Edge.says("16", "0 the round, 0 without an encounter", () -> {
            EncounterLedger x = Edge.paired();
            Due.is("ahead of it", x.turn(0), 0);
            x.begin(1);
            Due.is("in it", x.turn(0), 1);
            x.endTurn();
            x.endTurn();
            Due.is("in the second round", x.turn(0), 2);
            x.finish();
            Due.is("behind it", x.turn(0), 0);
        });
        Edge.says("16", "1 the fighter whose turn it is", () -> {
            EncounterLedger x = Edge.fighting();
            Due.is("hero", x.turn(1), 0);
            x.endTurn();
            Due.is("foe", x.turn(1), 1);
        });
        Edge.says("16", "2 the steps that are left to it, at least 0", () -> {
            EncounterLedger x = Edge.fighting();
            Due.is("all", x.turn(2), 4);
            x.move(34);
            Due.is("but one", x.turn(2), 3);
            x.move(4);
            Due.is("none", x.turn(2), 0);
        });
        Edge.says("16", "3: 1 if it has acted, otherwise 0", () -> {
            EncounterLedger x = Edge.fighting("s0:h1");
            x.move(34);
            Due.is("a move is no act", x.turn(3), 0);
            x.move(44);
            x.strike(1);
            Due.is("a strike is one", x.turn(3), 1);
            x.endTurn();
            Due.is("in another turn", x.turn(3), 0);
            x.cast(0, 0, 0);
            Due.is("a power is one, too", x.turn(3), 1);
        });
        Edge.says("16", "10 + i the fighter at place i of the order of turns, from 0", () -> {
            EncounterLedger x = new EncounterLedger();
            for (int i = 0; i < 8; i++) {
                x.add(i % 2, i, 9, i - 4, 1);
            }
            x.begin(5);
            for (int i = 0; i < 8; i++) {
                Due.is("turn(10 + place of " + i + ")", x.turn(10 + x.fighter(i, 7)), i);
            }
        });
    }

    private static void errorsOfTurn() {
        Edge.says("16", "Returns a number of the encounter.", () -> {
            EncounterLedger x = three(2, 3, 1);
            int[] due = {1, 1, 4, 0};
            for (int what = 0; what < due.length; what++) {
                Due.is("turn(" + what + ")", x.turn(what), due[what]);
            }
        });
        Edge.says("16", "Returns the number, -5 without an encounter for all but 0, and for a place that there is not", () -> {
            EncounterLedger x = Edge.paired();
            for (int what : new int[] {1, 2, 3, 10, 11, 17, 18, Integer.MAX_VALUE}) {
                Due.is("turn(" + what + ") without an encounter", x.turn(what), -5);
            }
            x.begin(1);
            for (int what : new int[] {12, 13, 17, 18, 1000, Integer.MAX_VALUE}) {
                Due.is("turn(" + what + ") in an encounter", x.turn(what), -5);
            }
        });
        Edge.says("16", "NONE if what is negative or from 4 to 9.", () -> {
            for (int what : new int[] {-1, -5, -10, 4, 5, 6, 7, 8, 9, Integer.MIN_VALUE}) {
                Due.is("turn(" + what + ") without an encounter", new EncounterLedger().turn(what), Edge.NONE);
                Due.is("turn(" + what + ") in an encounter", Edge.fighting().turn(what), Edge.NONE);
            }
        });
    }
}

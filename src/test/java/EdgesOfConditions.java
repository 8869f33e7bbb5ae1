import java.util.HashSet;
import java.util.Set;

/** The edges of promise 17, and of what the document says of conditions. */
final class EdgesOfConditions {
    private EdgesOfConditions() {
    }

    static void run() {
        numbers();
        selectors();
        kinds();
        values();
        madeAgain();
        many();
        ends();
        downs();
        whoCannotAct();
    }

    private static void numbers() {
        int[] due = {4, 1, 0, 7, 3, 2};
        String[] words = {"0 its kind", "1 the fighter that has it", "2 its source", "3 its value", "4 its end",
            "5 its count"};
        for (int what = 0; what < due.length; what++) {
            int one = what;
            Edge.says("17", words[what], () -> {
                EncounterLedger x = Edge.fighting("s0:k4732", "s0:k2101");
                Edge.castOn(x, 0, 1);
                Due.is("condition(0, " + one + ")", x.condition(0, one), due[one]);
                x.endTurn();
                Edge.castOn(x, 1, 1);
                int[] later = {2, 1, 1, 1, 0, 1};
                Due.is("condition(1, " + one + ")", x.condition(1, one), later[one]);
                Due.is("condition(0, " + one + ")", x.condition(0, one), due[one]);
            });
        }
    }

    private static void selectors() {
        Edge.says("17", "Returns a number of a condition.", () -> {
            EncounterLedger x = Edge.fighting("s0:k4732");
            Due.is("none yet", x.condition(0, 0), Edge.NONE);
            Edge.castOn(x, 0, 1);
            Edge.condition(x, 0, 4, 1, 0, 7, 3, 2);
        });
        Edge.says("17", "`i`: its number among all conditions, from 0, or -1 for how many there are", () -> {
            EncounterLedger x = Edge.fighting("s5:k4732,k2101,k0111");
            Due.is("none", x.condition(-1, 0), 0);
            x.cast(0, 44, 0);
            Due.is("three", x.condition(-1, 0), 3);
            int[] kinds = {4, 2, 0};
            for (int i = 0; i < 3; i++) {
                Due.is("kind of " + i, x.condition(i, 0), kinds[i]);
            }
        });
        Edge.says("17", "any value for how many", () -> {
            EncounterLedger x = Edge.fighting("s0:k4732");
            Edge.castOn(x, 0, 1);
            for (int what : new int[] {-1, 0, 5, 6, 100, Integer.MIN_VALUE, Integer.MAX_VALUE}) {
                Due.is("condition(-1, " + what + ")", x.condition(-1, what), 1);
            }
        });
        Edge.says("17", "Returns the number", () -> {
            EncounterLedger x = Edge.fighting("s0:k0101");
            Edge.castOn(x, 0, 1);
            Edge.condition(x, 0, 0, 1, 0, 1, 0, 1);
        });
        Edge.says("17", "NONE if there is no such condition or what is invalid.", () -> {
            EncounterLedger x = Edge.fighting("s0:k4732");
            Due.is("none at all", x.condition(0, 0), Edge.NONE);
            Edge.castOn(x, 0, 1);
            for (int i : new int[] {-2, -5, 1, 2, 384, Integer.MIN_VALUE, Integer.MAX_VALUE}) {
                Due.is("condition(" + i + ", 0)", x.condition(i, 0), Edge.NONE);
            }
            for (int what : new int[] {-1, -5, 6, 7, Integer.MIN_VALUE, Integer.MAX_VALUE}) {
                Due.is("condition(0, " + what + ")", x.condition(0, what), Edge.NONE);
                Due.is("condition(1, " + what + ")", x.condition(1, what), Edge.NONE);
            }
            x.endTurn();
            x.back();
            x.back();
            Due.is("undone", x.condition(0, 0), Edge.NONE);
        });
    }

    private static void kinds() {
        Edge.says("Conditions", "A condition is of a kind, 0 poison, 1 stun, 2 shield, 3 haste, 4 mark or 5 sleep", () -> {
            for (int kind = 0; kind < 6; kind++) {
                EncounterLedger x = Edge.fighting("s5:k" + kind + "139");
                x.cast(0, 44, 0);
                boolean forItself = kind == 2 || kind == 3;
                x.endTurn();
                boolean isOut = kind == 1 || kind == 5;
                Due.is("life with kind " + kind, x.fighter(1, 2), kind == 0 ? 49 : 50);
                Due.is("who can act with kind " + kind, x.fighter(1, 6), isOut ? 0 : 1);
                Due.is("strike with kind " + kind, x.strike(0), isOut ? Edge.STATE : kind == 2 ? 4 : 5);
                x.endTurn();
                Due.is("steps with kind " + kind, x.turn(2), kind == 3 ? 8 : 4);
                Due.is("strike back with kind " + kind, x.strike(1), kind == 4 ? 6 : 5);
                Due.is("who has kind " + kind, x.fighter(0, 9), forItself ? 1 : 0);
            }
        });
    }

    private static void values() {
        Edge.says("Conditions", "belongs to a fighter, which has it, and to a source, which is the fighter that made it, and "
            + "has a value from 1 to 9, an end and a count from 1 to 9.", () -> {
                for (int n = 1; n <= 9; n++) {
                    for (int end = 0; end < 4; end++) {
                        EncounterLedger x = Edge.fighting("s0:k4" + n + end + (10 - n));
                        Edge.castOn(x, 0, 1);
                        Edge.condition(x, 0, 4, 1, 0, n, end, 10 - n);
                    }
                }
            });
    }

    private static void madeAgain() {
        Edge.says("Conditions", "There is at most one for the same kind, fighter and source", () -> {
            EncounterLedger x = new EncounterLedger();
            Edge.read(x, "s5:k4139", "s5:k0139");
            x.add(0, 44, 50, 9, 4);
            x.add(1, 45, 50, -5, 4);
            x.add(1, 46, 50, -5, 4);
            x.add(0, 43, 50, 5, 4);
            x.begin(Due.seed(20, 1, 1, 16));
            x.cast(0, 44, 0);
            Due.is("of two fighters", x.condition(-1, 0), 2);
            x.endTurn();
            x.cast(0, 44, 0);
            Due.is("of two sources", x.condition(-1, 0), 4);
            Due.nextTurnOf(x, 0);
            x.cast(0, 44, 0);
            Due.is("the same again", x.condition(-1, 0), 4);
            Due.nextTurnOf(x, 0);
            x.cast(1, 44, 0);
            Due.is("of another kind", x.condition(-1, 0), 6);
        });
        Edge.says("Conditions", "if it is made again, it has the greater one of both values and of both counts, and the new "
            + "end, and keeps its place.", () -> {
                for (int first = 4; first <= 6; first++) {
                    for (int second = 4; second <= 6; second++) {
                        EncounterLedger x = Edge.fighting("s0:k4" + first + "35,k0139", "s0:k45" + "2" + second);
                        Edge.castOn(x, 0, 1);
                        Due.nextTurnOf(x, 0);
                        Edge.castOn(x, 1, 1);
                        Edge.condition(x, 0, 4, 1, 0, Math.max(first, 5), 2, Math.max(5, second));
                        Edge.condition(x, 1, 0, 1, 0, 1, 3, 9);
                        Due.is("how many", x.condition(-1, 0), 2);
                    }
                }
                EncounterLedger x = Edge.fighting("s0:k4105", "s0:k4105");
                Edge.castOn(x, 0, 1);
                Due.nextTurnOf(x, 0);
                Edge.condition(x, 0, 4, 1, 0, 1, 0, 4);
                Edge.castOn(x, 1, 1);
                Edge.condition(x, 0, 4, 1, 0, 1, 0, 5);
            });
        Edge.says("Conditions", "Conditions are in the order in which they were made first.", () -> {
            EncounterLedger x = Edge.fighting("s0:k4101,k0131", "s0:k5131,k4131");
            Edge.castOn(x, 0, 1);
            x.endTurn();
            x.endTurn();
            Due.is("the mark has ended", x.condition(-1, 0), 1);
            Edge.castOn(x, 1, 1);
            int[] due = {0, 5, 4};
            for (int i = 0; i < due.length; i++) {
                Due.is("kind of " + i, x.condition(i, 0), due[i]);
            }
            Due.is("no fourth", x.condition(3, 0), Edge.NONE);
        });
    }

    /** All eight make 4 kinds for 4 fighters each, then one side 2 more kinds; none of them is left out. */
    private static void many() {
        Edge.says("Conditions", "There is at most one for the same kind", () -> {
            EncounterLedger x = new EncounterLedger();
            Edge.read(x, "s5:k0139,k2139,k3139,k4139", "s5:k1139,k5139");
            for (int i = 0; i < 8; i++) {
                x.add(i % 2, 40 + i, 99, i % 2 == 0 ? -5 : 9, 1);
            }
            x.begin(seedBySides(x));
            for (int turn = 0; turn < 8; turn++) {
                Due.is("fighters met", x.cast(0, 44, 0), 8);
                x.endTurn();
            }
            Due.is("of 4 kinds", x.condition(-1, 0), 8 * 16);
            for (int turn = 0; turn < 4; turn++) {
                x.endTurn();
            }
            for (int turn = 0; turn < 4; turn++) {
                Due.is("fighters met", x.cast(1, 44, 0), 8);
                x.endTurn();
            }
            x.back();
            Set<String> found = new HashSet<>();
            int all = x.condition(-1, 0);
            Due.is("of 6 kinds", all, 8 * 16 + 4 * 8);
            for (int i = all - 90; i < all; i++) {
                found.add(x.condition(i, 0) + " " + x.condition(i, 1) + " " + x.condition(i, 2));
            }
            Due.is("all are different", found.size(), 90);
            Due.is("of one fighter", x.fighter(1, 9), 4 * 6);
            Due.is("poisons of one fighter", x.fighter(1, 30), 4);
            Due.is("behind the last", x.condition(all, 0), Edge.NONE);
        });
    }

    /** A seed by which side 1, with the greater bonus, comes ahead of side 0 as a whole. */
    private static int seedBySides(EncounterLedger x) {
        for (int seed = 0; seed < 1000; seed++) {
            EncounterLedger y = new EncounterLedger();
            for (int i = 0; i < 8; i++) {
                y.add(i % 2, 40 + i, 99, x.fighter(i, 4), 1);
            }
            y.begin(seed);
            int ahead = 0;
            for (int place = 0; place < 4; place++) {
                ahead += y.turn(10 + place) % 2;
            }
            if (ahead == 4) {
                return seed;
            }
        }
        throw new IllegalStateException("no such seed");
    }

    /** The conditions that are left of marks with the ends 0 to 3 when one thing has happened. */
    private static int left(int end, Edge.Setup what) {
        EncounterLedger x = Edge.fighting("s0:k41" + end + "2", "s0:h1", "s0:h0", "s0:m9");
        Edge.castOn(x, 0, 1);
        what.on(x);
        return x.condition(-1, 0);
    }

    private static void ends() {
        Edge.says("Conditions", "The ends are 0 and 1 as told above", () -> {
            Edge.Setup round = x -> Due.nextTurnOf(x, 0);
            Edge.Setup rounds = x -> {
                Due.nextTurnOf(x, 0);
                Due.nextTurnOf(x, 0);
            };
            for (int end = 0; end < 4; end++) {
                Due.is("end " + end + " behind one round", left(end, round), 1);
                Due.is("end " + end + " behind two rounds", left(end, rounds), end < 2 ? 0 : 1);
            }
        });
        Edge.says("Conditions", "2: the condition ends when the fighter that has it is harmed by more than 0", () -> {
            for (int end = 0; end < 4; end++) {
                Due.is("end " + end + " behind harm", left(end, x -> {
                    Due.nextTurnOf(x, 0);
                    Edge.castOn(x, 1, 1);
                }), end == 2 ? 0 : 1);
                Due.is("end " + end + " behind a strike", left(end, x -> {
                    Due.nextTurnOf(x, 0);
                    x.strike(1);
                }), end == 2 ? 0 : 1);
                Due.is("end " + end + " behind harm of its source", left(end, x -> {
                    x.endTurn();
                    Edge.castOn(x, 1, 0);
                }), 1);
            }
            EncounterLedger x = Edge.fighting("s0:k2921", "s0:h9", "s0:h10");
            Edge.castOn(x, 0, 0);
            x.endTurn();
            Edge.castOn(x, 1, 0);
            Due.is("not by harm of 0", x.condition(-1, 0), 1);
            Due.nextTurnOf(x, 1);
            Edge.castOn(x, 2, 0);
            Due.is("by harm of 1", x.condition(-1, 0), 0);
        });
        Edge.says("Conditions", "3: it ends with a long rest.", () -> {
            for (int end = 2; end < 4; end++) {
                Due.is("end " + end + " behind the encounter", left(end, EncounterLedger::finish), 1);
                Due.is("end " + end + " behind a short rest", left(end, x -> {
                    x.finish();
                    x.rest(0);
                }), 1);
                Due.is("end " + end + " behind a long rest", left(end, x -> {
                    x.finish();
                    x.rest(1);
                }), end == 3 ? 0 : 1);
            }
        });
    }

    private static void downs() {
        Edge.says("Conditions", "All conditions of a fighter end when it goes down", () -> {
            EncounterLedger x = new EncounterLedger();
            Edge.read(x, "s5:k4139,k1129,k5109", "s5:k2119", "s0:h99");
            x.add(0, 44, 50, 9, 4);
            x.add(1, 45, 50, -5, 4);
            x.add(1, 46, 50, 5, 4);
            x.begin(Due.seed(20, 1, 16));
            x.endTurn();
            x.cast(1, 45, 0);
            Due.nextTurnOf(x, 0);
            x.cast(0, 44, 0);
            Due.is("conditions with each end", x.condition(-1, 0), 2 + 6);
            Due.nextTurnOf(x, 0);
            int before = x.condition(-1, 0);
            int ofOne = x.fighter(1, 9);
            x.cast(2, 45, 0);
            Due.is("none of it is left", x.fighter(1, 9), 0);
            Due.is("those of others are", x.condition(-1, 0), before - ofOne);
            Due.is("those that it had", ofOne, 4);
            Due.is("those of all", before, 8);
            Due.is("those that it had made", x.fighter(2, 32), 1);
        });
        Edge.says("Conditions", "those of kind 5 also end when it is harmed by more than 0.", () -> {
            for (int end = 0; end < 4; end++) {
                EncounterLedger x = Edge.fighting("s0:k51" + end + "9,k11" + (end == 2 ? 3 : end) + "9", "s0:h0", "s0:h1");
                Edge.castOn(x, 0, 1);
                Due.nextTurnOf(x, 0);
                Edge.castOn(x, 1, 1);
                Due.is("not by harm of 0", x.fighter(1, 35), 1);
                Due.nextTurnOf(x, 0);
                Edge.castOn(x, 2, 1);
                Due.is("by harm of 1", x.fighter(1, 35), 0);
                Due.is("no other kind", x.fighter(1, 31), 1);
            }
        });
    }

    private static void whoCannotAct() {
        Edge.says("Conditions", "A fighter cannot act if it is down or has a condition of kind 1 or 5.", () -> {
            for (int kind = 0; kind < 6; kind++) {
                boolean forItself = kind == 2 || kind == 3;
                EncounterLedger x = Edge.fighting("s5:k" + kind + "139");
                x.cast(0, 44, 0);
                Due.is("with kind " + kind, x.fighter(forItself ? 0 : 1, 6), kind == 1 || kind == 5 ? 0 : 1);
                x.finish();
                Due.is("also behind the encounter", x.fighter(forItself ? 0 : 1, 6), kind == 1 || kind == 5 ? 0 : 1);
                x.rest(1);
                Due.is("but not behind a long rest", x.fighter(forItself ? 0 : 1, 6), 1);
            }
            EncounterLedger x = Edge.fighting("s0:h99");
            Edge.castOn(x, 0, 1);
            Due.is("down", x.fighter(1, 6), 0);
        });
    }
}

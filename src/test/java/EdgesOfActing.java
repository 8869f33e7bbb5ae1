/** The edges of promises 9, 10 and 19, and of what the document says of the grid, harm and acting. */
final class EdgesOfActing {
    private EdgesOfActing() {
    }

    static void run() {
        grid();
        steps();
        acts();
        ways();
        neighbors();
        moves();
        errorsOfMove();
        strikes();
        errorsOfStrike();
        waysAreTold();
        errorsOfWay();
        harms();
        mends();
    }

    /** A single fighter with the speed 9 on a cell, in its turn. */
    private static EncounterLedger alone(int cell) {
        EncounterLedger x = new EncounterLedger();
        x.add(0, cell, 20, 0, 9);
        x.begin(1);
        return x;
    }

    private static void grid() {
        Edge.says("Grid", "There are 100 cells, in 10 columns and 10 rows; the cell in column x and row y has the number "
            + "10 * y + x.", () -> {
                for (int from : new int[] {0, 9, 90, 99, 10, 19, 37}) {
                    EncounterLedger x = alone(from);
                    for (int cell = 0; cell < 100; cell++) {
                        int due = Math.abs(cell % 10 - from % 10) + Math.abs(cell / 10 - from / 10);
                        Due.is("way(" + cell + ") from " + from, x.way(cell), due);
                    }
                    Due.is("way(-1)", x.way(-1), Edge.NONE);
                    Due.is("way(100)", x.way(100), Edge.NONE);
                }
            });
        Edge.says("Grid", "The directions are 0 to the next column, 1 to the next row, 2 to the column before and 3 to the "
            + "row before", () -> {
                EncounterLedger x = new EncounterLedger();
                int[] due = {45, 54, 43, 34};
                for (int direction = 0; direction < 4; direction++) {
                    Due.is("line in direction " + direction, x.area(3, 44, direction, 1, 0), due[direction]);
                    Due.is("cone in direction " + direction, x.area(2, 44, direction, 1, 0), due[direction]);
                }
            });
        Edge.says("Grid", "the neighbors of a cell are the cells one step away in these directions, as far as they "
            + "exist.", () -> {
                for (int cell = 0; cell < 100; cell++) {
                    EncounterLedger x = alone(cell);
                    int neighbors = 0;
                    for (int other = 0; other < 100; other++) {
                        neighbors += x.way(other) == 1 ? 1 : 0;
                    }
                    int edges = (cell % 10 % 9 == 0 ? 1 : 0) + (cell / 10 % 9 == 0 ? 1 : 0);
                    Due.is("neighbors of " + cell, neighbors, 4 - edges);
                }
            });
        Edge.says("Grid", "A cell is a wall or not; at first none is.", () -> {
            EncounterLedger x = alone(0);
            for (int cell = 1; cell < 100; cell++) {
                Due.holds("a way to " + cell, x.way(cell) > 0);
            }
            x.wall(99);
            Due.is("way to a wall", x.way(99), -5);
            x.wall(99);
            Due.is("no longer one", x.way(99), 18);
        });
    }

    private static void steps() {
        Edge.says("Acting", "In its turn, a fighter that can act can make steps up to its speed", () -> {
            for (int speed = 1; speed <= 9; speed++) {
                EncounterLedger x = new EncounterLedger();
                x.add(0, 0, 20, 0, speed);
                x.begin(1);
                Due.refused("one step too far", x, x.move(10 + speed), 6);
                Due.is("as far as it goes", x.move(10 + speed - 1), 0);
            }
        });
        Edge.says("Acting", "two times this if it has a condition of kind 3 at that moment", () -> {
            EncounterLedger x = new EncounterLedger();
            Edge.read(x, "s5:k3901", "s5:k3101");
            x.add(0, 0, 20, 9, 2);
            x.add(0, 1, 20, -5, 2);
            x.begin(Edge.HERO_FIRST);
            Due.refused("without haste", x, x.move(3), 6);
            x.cast(0, 0, 0);
            Due.is("two times the speed", x.turn(2), 4);
            Due.refused("too far with haste", x, x.move(5), 6);
            Due.is("as far as haste goes", x.move(4), 0);
            x.endTurn();
            x.cast(1, 1, 0);
            Due.is("two hastes", x.fighter(1, 33), 10);
            Due.is("are no more than one", x.turn(2), 4);
            x.endTurn();
            Due.is("haste from another one", x.fighter(0, 33), 1);
            Due.is("steps", x.turn(2), 4);
            x.endTurn();
            x.endTurn();
            Due.is("the haste has ended", x.turn(2), 2);
        });
        Edge.says("Acting", "the steps that it made in the turn count.", () -> {
            EncounterLedger x = Edge.fighting("s5:k3109");
            Due.is("one step", x.move(34), 3);
            Due.is("two more", x.move(14), 1);
            Due.refused("two are too many", x, x.move(3), 6);
            x.cast(0, 14, 0);
            Due.is("haste", x.turn(2), 5);
            Due.is("one more", x.move(4), 4);
            Due.nextTurnOf(x, 0);
            Due.is("another turn", x.turn(2), 8);
        });
    }

    private static void acts() {
        Edge.says("Acting", "act once, by a strike or a power", () -> {
            for (int first = 0; first < 2; first++) {
                EncounterLedger x = Edge.fighting("s0:h1");
                Due.holds("the first act", (first == 0 ? x.strike(1) : x.cast(0, 45, 0)) > 0);
                Due.refused("a strike behind it", x, x.strike(1), 4);
                Due.refused("a power behind it", x, x.cast(0, 45, 0), 4);
                Due.is("a move behind it", x.move(34), 3);
                Due.nextTurnOf(x, 0);
                Due.is("another turn", x.cast(0, 45, 0), 1);
            }
        });
        Edge.says("Acting", "by a strike or a power", () -> {
            EncounterLedger x = Edge.fighting("s0:h0");
            Due.is("a power that meets nobody", x.cast(0, 0, 0), 0);
            Due.refused("is an act", x, x.strike(1), 4);
        });
    }

    private static void ways() {
        Edge.says("Acting", "A move to a cell takes as many steps as the shortest way there has", () -> {
            EncounterLedger x = new EncounterLedger();
            x.add(0, 0, 20, 0, 9);
            x.wall(1);
            x.wall(11);
            x.wall(31);
            x.begin(1);
            Due.is("through the gap", x.move(2), 9 - 6);
            EncounterLedger y = new EncounterLedger();
            y.add(0, 0, 20, 0, 9);
            y.wall(1);
            y.wall(11);
            y.wall(21);
            y.wall(31);
            y.begin(1);
            Due.refused("around is one step too far", y, y.move(2), 6);
            Due.is("but nearly there", y.move(12), 0);
        });
        Edge.says("Acting", "over cells that are no walls", () -> {
            EncounterLedger x = alone(0);
            x.wall(1);
            x.wall(10);
            Due.refused("shut in by walls", x, x.move(11), 6);
            x.wall(1);
            Due.is("let out", x.move(11), 7);
        });
        Edge.says("Acting", "on which no fighter of the other side is that is not down", () -> {
            EncounterLedger x = new EncounterLedger();
            Edge.read(x, "s0:h99");
            x.add(0, 0, 20, 9, 9);
            x.add(1, 1, 20, -5, 9);
            x.wall(10);
            x.begin(Edge.HERO_FIRST);
            Due.refused("shut in by a foe", x, x.move(2), 6);
            x.cast(0, 1, 0);
            Due.is("past one down", x.move(2), 7);
        });
        Edge.says("Acting", "no fighter of the other side", () -> {
            EncounterLedger x = new EncounterLedger();
            x.add(0, 1, 20, -5, 9);
            x.add(1, 0, 20, 9, 9);
            x.add(1, 10, 20, -5, 9);
            x.wall(11);
            x.wall(21);
            x.begin(Due.seed(1, 20, 1));
            Due.is("around the first fighter", x.way(2), 8);
            x.wall(31);
            Due.is("farther around it", x.way(2), 10);
            Due.refused("one step too far", x, x.move(2), 6);
            Due.is("past the third fighter", x.move(20), 7);
        });
        Edge.says("Acting", "the cell must be free of fighters and walls.", () -> {
            EncounterLedger x = Edge.fighting("s0:h99");
            x.add(0, 43, 5, 0, 1);
            x.wall(34);
            Due.refused("a foe", x, x.move(45), 5);
            Due.refused("a friend", x, x.move(43), 5);
            Due.refused("itself", x, x.move(44), 5);
            Due.refused("a wall", x, x.move(34), 5);
            x.cast(0, 45, 0);
            Due.refused("a foe that is down", x, x.move(45), 5);
            Due.is("a free one", x.move(54), 3);
        });
    }

    private static EncounterLedger foeOn(int heroCell, int foeCell) {
        EncounterLedger x = new EncounterLedger();
        x.add(0, heroCell, 20, 9, 4);
        x.add(1, foeCell, 20, -5, 4);
        x.begin(Edge.HERO_FIRST);
        return x;
    }

    private static void neighbors() {
        Edge.says("Acting", "A strike harms a neighbor, which is a fighter of the other side, not down, on a neighbor of "
            + "the cell, by 5 with marks and shields.", () -> {
                for (int heroCell : new int[] {44, 0, 9, 90, 99, 10, 19, 4, 94}) {
                    for (int foeCell = 0; foeCell < 100; foeCell++) {
                        if (foeCell != heroCell) {
                            strikeFrom(heroCell, foeCell);
                        }
                    }
                }
            });
    }

    private static void strikeFrom(int heroCell, int foeCell) {
        int steps = Math.abs(foeCell % 10 - heroCell % 10) + Math.abs(foeCell / 10 - heroCell / 10);
        EncounterLedger x = foeOn(heroCell, foeCell);
        if (steps == 1) {
            Due.is("strike from " + heroCell + " on " + foeCell, x.strike(1), 5);
        } else {
            Due.refused("strike from " + heroCell + " on " + foeCell, x, x.strike(1), 7);
        }
    }

    private static void moves() {
        Edge.says("9", "Moves the fighter whose turn it is.", () -> {
            EncounterLedger x = Edge.fighting();
            int before = x.entry(-1, 0);
            x.move(33);
            Due.is("its cell", x.fighter(0, 1), 33);
            Due.is("not the other's", x.fighter(1, 1), 45);
            Edge.entries(x, before, 7, 0, 33);
            Due.is("its first cell is free", x.wall(44), 1);
        });
        Edge.says("9", "Returns the steps that are left to it in this turn", () -> {
            EncounterLedger x = Edge.fighting();
            Due.is("of 4, three are left", x.move(34), 3);
            Due.is("then one", x.move(14), 1);
            Due.is("then none", x.move(4), 0);
            Due.refused("then no more", x, x.move(5), 6);
        });
    }

    private static void stun(EncounterLedger x) {
        Edge.read(x, "s0:k1139");
        Edge.fight(x);
        x.wall(99);
        x.cast(0, 45, 0);
        x.endTurn();
    }

    private static void errorsOfMove() {
        Edge.says("9", "`cell`: the cell", () -> {
            for (int cell : Edge.outside(0, 99)) {
                Edge.error("move(" + cell + ")", Edge::fight, x -> x.move(cell), Edge.NONE);
            }
            Due.is("to the first cell", alone(1).move(0), 8);
            Due.is("to the last cell", alone(98).move(99), 8);
        });
        Edge.says("9", "NONE if there is no such cell", () -> {
            Edge.error("NONE is ahead of reason 1", Edge::pair, x -> x.move(100), Edge.NONE);
            Edge.error("NONE is ahead of reason 3", EdgesOfActing::stun, x -> x.move(-1), Edge.NONE);
        });
        Edge.says("9", "STATE with the reason 1, 3, 5 or 6.", () -> {
            Edge.state("no encounter", Edge::pair, x -> x.move(34), 1);
            Edge.state("no encounter, a fighter there", Edge::pair, x -> x.move(45), 1);
            Edge.state("cannot act", EdgesOfActing::stun, x -> x.move(35), 3);
            Edge.state("cannot act, a wall", EdgesOfActing::stun, x -> x.move(99), 3);
            Edge.state("cannot act, too far", EdgesOfActing::stun, x -> x.move(0), 3);
            Edge.state("a fighter there", Edge::fight, x -> x.move(45), 5);
            Edge.state("its own cell", Edge::fight, x -> x.move(44), 5);
            Edge.state("a wall that is too far away", x -> {
                Edge.fight(x);
                x.wall(99);
            }, x -> x.move(99), 5);
            Edge.state("too far", Edge::fight, x -> x.move(40 + 8), 6);
            Edge.state("no way", x -> {
                Edge.fight(x);
                for (int cell : new int[] {24, 33, 35}) {
                    x.wall(cell);
                }
                x.move(54);
                x.wall(44);
            }, x -> x.move(34), 6);
        });
    }

    /** The hero strikes a foe with this life, marked and shielded by these values, 0 for none. */
    private static EncounterLedger struck(int life, int mark, int shield) {
        EncounterLedger x = new EncounterLedger();
        Edge.read(x, "s0:k4" + Math.max(1, mark) + "39", "s0:k2" + Math.max(1, shield) + "39");
        x.add(0, 44, 50, 9, 4);
        x.add(1, 45, life, -5, 4);
        x.begin(Edge.HERO_FIRST);
        if (mark > 0) {
            x.cast(0, 45, 0);
        }
        x.endTurn();
        if (shield > 0) {
            x.cast(1, 45, 0);
        }
        x.endTurn();
        return x;
    }

    private static void strike(int life, int mark, int shield, int lost) {
        EncounterLedger x = struck(life, mark, shield);
        String name = "strike on the life " + life + " with mark " + mark + " and shield " + shield;
        int conditions = x.fighter(1, 9);
        Due.is(name, x.strike(1), lost);
        Due.is("life behind " + name, x.fighter(1, 2), life - lost);
        Due.is("down behind " + name, x.account(1), life == lost ? 1 : 0);
        Due.is("conditions behind " + name, x.fighter(1, 9), life == lost ? 0 : conditions);
    }

    private static void strikes() {
        Edge.says("10", "The fighter whose turn it is strikes.", () -> {
            EncounterLedger x = Edge.fighting();
            x.endTurn();
            int before = x.entry(-1, 0);
            Due.is("the foe strikes", x.strike(0), 5);
            Edge.entries(x, before, 10, 1, 0, 1, 0, 5);
            Due.is("acts", x.account(8), 1);
        });
        Edge.says("10", "Returns what its life lost", () -> {
            strike(50, 0, 0, 5);
            strike(4, 0, 0, 4);
            strike(50, 0, 9, 0);
        });
        Edge.says("Harm", "To harm a fighter that is not down by n with marks and shields means: n plus the values of its "
            + "conditions of kind 4, minus those of kind 2, but at least 0, is taken from its life", () -> {
                strike(50, 1, 0, 6);
                strike(50, 9, 0, 14);
                strike(50, 0, 1, 4);
                strike(50, 0, 4, 1);
                strike(50, 0, 5, 0);
                strike(50, 0, 6, 0);
                strike(50, 4, 9, 0);
                strike(50, 5, 9, 1);
            });
        Edge.says("Harm", "but at most its life", () -> {
            strike(1, 0, 0, 1);
            strike(5, 0, 0, 5);
            strike(6, 0, 0, 5);
            strike(13, 9, 0, 13);
            strike(14, 9, 0, 14);
            strike(15, 9, 0, 14);
        });
    }

    private static void errorsOfStrike() {
        Edge.says("10", "`other`: the fighter that is struck", () -> {
            for (int other : Edge.outside(0, 1)) {
                Edge.error("strike(" + other + ")", Edge::fight, x -> x.strike(other), Edge.NONE);
            }
        });
        Edge.says("10", "NONE if there is no such fighter", () -> {
            Edge.error("without fighters", x -> { }, x -> x.strike(0), Edge.NONE);
            Edge.error("NONE is ahead of reason 1", Edge::pair, x -> x.strike(2), Edge.NONE);
            Edge.error("NONE is ahead of reason 3", EdgesOfActing::stun, x -> x.strike(-1), Edge.NONE);
        });
        Edge.says("10", "STATE with the reason 1, 3, 4 or 7.", () -> {
            Edge.state("no encounter", Edge::pair, x -> x.strike(1), 1);
            Edge.state("no encounter, itself", Edge::pair, x -> x.strike(0), 1);
            Edge.state("cannot act", EdgesOfActing::stun, x -> x.strike(0), 3);
            Edge.state("cannot act, itself", EdgesOfActing::stun, x -> x.strike(1), 3);
            Edge.Setup acted = x -> {
                Edge.fight(x);
                x.strike(1);
            };
            Edge.state("has acted", acted, x -> x.strike(1), 4);
            Edge.state("has acted, itself", acted, x -> x.strike(0), 4);
            Edge.state("itself", Edge::fight, x -> x.strike(0), 7);
            Edge.state("far away", x -> {
                Edge.fight(x);
                x.move(43);
            }, x -> x.strike(1), 7);
            Edge.state("across the corner", x -> {
                Edge.fight(x);
                x.move(34);
            }, x -> x.strike(1), 7);
            Edge.state("down", x -> {
                Edge.read(x, "s0:h99");
                Edge.fight(x);
                x.cast(0, 45, 0);
                Due.nextTurnOf(x, 0);
            }, x -> x.strike(1), 7);
            Edge.state("a friend", x -> {
                Edge.fight(x);
                x.add(0, 43, 5, 0, 1);
            }, x -> x.strike(2), 7);
        });
    }

    private static void waysAreTold() {
        Edge.says("19", "Returns how many steps the fighter whose turn it is needs to a cell, as for a move, whether they "
            + "are left to it or not.", () -> {
                EncounterLedger x = new EncounterLedger();
                x.add(0, 0, 20, 0, 1);
                x.begin(1);
                Due.is("far beyond its speed", x.way(99), 18);
                Due.is("one step", x.way(1), 1);
                x.move(1);
                Due.is("no step is left", x.way(2), 1);
                for (int row = 0; row < 9; row++) {
                    x.wall(Due.cell(2, row));
                }
                Due.is("around a wall", x.way(3), 20);
                for (int row = 1; row < 10; row++) {
                    x.wall(Due.cell(4, row));
                }
                Due.is("around two", x.way(5), 9 + 2 + 9 + 2);
            });
        Edge.says("19", "Returns the steps, -5 if there is no way or the cell is not free", () -> {
            EncounterLedger x = Edge.fighting("s0:h99");
            x.add(0, 43, 5, 0, 1);
            x.wall(34);
            Due.is("a wall", x.way(34), -5);
            Due.is("a friend", x.way(43), -5);
            Due.is("a foe", x.way(45), -5);
            x.cast(0, 45, 0);
            Due.is("a foe that is down", x.way(45), -5);
            x.wall(1);
            x.wall(10);
            Due.is("shut off", x.way(0), -5);
            Due.is("beside it", x.way(11), 6);
        });
        Edge.says("19", "0 for its own cell", () -> {
            Due.is("own cell", alone(37).way(37), 0);
            EncounterLedger x = Edge.fighting();
            Due.is("the hero's", x.way(44), 0);
            x.endTurn();
            Due.is("not the hero's now", x.way(44), -5);
            Due.is("the foe's", x.way(45), 0);
        });
    }

    private static void errorsOfWay() {
        Edge.says("19", "`cell`: the cell", () -> {
            for (int cell : Edge.outside(0, 99)) {
                Edge.error("way(" + cell + ")", Edge::fight, x -> x.way(cell), Edge.NONE);
            }
        });
        Edge.says("19", "NONE if there is no such cell",
            () -> Edge.error("NONE is ahead of STATE", Edge::pair, x -> x.way(100), Edge.NONE));
        Edge.says("19", "STATE with the reason 1.", () -> {
            Edge.state("no encounter", Edge::pair, x -> x.way(0), 1);
            Edge.state("no encounter, a cell that is not free", Edge::pair, x -> x.way(44), 1);
            Edge.state("no fighters", x -> { }, x -> x.way(0), 1);
        });
    }

    private static void harms() {
        Edge.says("Harm", "n plus the values of its conditions of kind 4, minus those of kind 2", () -> {
            EncounterLedger x = new EncounterLedger();
            Edge.read(x, "s0:k4239", "s0:k4339", "s0:k2139", "s0:h1");
            x.add(0, 0, 50, 9, 9);
            x.add(1, 9, 50, -5, 9);
            x.add(0, 5, 50, 8, 9);
            x.begin(Due.seed(20, 1, 19));
            x.cast(0, 9, 0);
            x.endTurn();
            x.cast(1, 9, 0);
            x.endTurn();
            x.cast(2, 9, 0);
            x.endTurn();
            x.cast(3, 9, 0);
            Due.is("1 and two marks, less a shield", x.account(4), 1 + 2 + 3 - 1);
        });
        Edge.says("Harm", "without them, it is n itself.", () -> {
            EncounterLedger x = Edge.fighting("s0:k0339,k4939", "s0:k2939");
            Edge.castOn(x, 0, 1);
            x.endTurn();
            Due.is("poison does not mind marks", x.fighter(1, 2), 47);
            Edge.castOn(x, 1, 1);
            Due.nextTurnOf(x, 1);
            Due.is("nor shields", x.fighter(1, 2), 44);
        });
        Edge.says("Harm", "If the life is 0 then, it goes down.", () -> {
            EncounterLedger x = Edge.fighting("s0:h49", "s0:h1");
            Edge.castOn(x, 0, 1);
            Due.is("not with 1 left", x.account(1), 0);
            Due.nextTurnOf(x, 0);
            Edge.castOn(x, 1, 1);
            Due.is("with 0 left", x.account(1), 1);
        });
        Edge.says("Harm", "A fighter that is down is not harmed.", () -> {
            EncounterLedger x = Edge.fighting("s0:h50", "s0:h9");
            Edge.castOn(x, 0, 1);
            Due.nextTurnOf(x, 0);
            int before = x.entry(-1, 0);
            Edge.castOn(x, 1, 1);
            Due.is("harm", x.account(4), 50);
            Edge.entries(x, before, 10, 0, 11);
        });
    }

    private static void mends() {
        Edge.says("Harm", "To mend a fighter by n adds n to its life, up to the greatest one", () -> {
            for (int n = 8; n <= 12; n++) {
                EncounterLedger x = Edge.fighting("s0:h10", "s0:m" + n);
                Edge.castOn(x, 0, 1);
                x.endTurn();
                Edge.castOn(x, 1, 1);
                Due.is("life mended by " + n, x.fighter(1, 2), Math.min(50, 40 + n));
                Due.is("mended", x.account(5), Math.min(10, n));
            }
        });
        Edge.says("Harm", "one that was down and has more than 0 then is up again.", () -> {
            EncounterLedger x = new EncounterLedger();
            Edge.read(x, "s0:h99", "s0:m0", "s0:m1");
            x.add(0, 0, 50, 9, 9);
            x.add(1, 9, 50, -5, 9);
            x.add(1, 5, 50, 8, 9);
            x.begin(Due.seed(20, 1, 19));
            x.cast(0, 9, 0);
            x.endTurn();
            x.cast(1, 9, 0);
            Due.is("not by 0", x.account(1), 1);
            Due.nextTurnOf(x, 2);
            x.cast(2, 9, 0);
            Due.is("by 1", x.account(1), 0);
            Due.is("it can act", x.fighter(1, 6), 1);
        });
    }
}

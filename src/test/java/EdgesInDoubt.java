/** What the document says of cases that are in doubt, and of errors. */
final class EdgesInDoubt {
    private EdgesInDoubt() {
    }

    static void run() {
        downs();
        harms();
        steps();
        strikes();
        arguments();
        turns();
        reasons();
        errorsLeaveTheState();
        firstErrors();
        codes();
        noErrors();
    }

    private static void downs() {
        Edge.says("In doubt", "The turn of a fighter that is down or goes down by poison is not skipped", () -> {
            EncounterLedger x = Edge.fighting("s0:h99");
            Edge.castOn(x, 0, 1);
            int before = x.entry(-1, 0);
            Due.is("the turn of one down", x.endTurn(), 1);
            Edge.entries(x, before, 9, 0, 1, 8, 1, 1);
            EncounterLedger y = poisonedToDeath();
            before = y.entry(-1, 0);
            Due.is("the turn of one that goes down", y.endTurn(), 1);
            Edge.entries(y, before, 9, 0, 1, 8, 1, 1, 1, 1, 9, 4, 1, 0);
            Due.is("whose turn it is", y.turn(1), 1);
            Due.is("round", y.turn(0), 1);
        });
        Edge.says("In doubt", "it only ends by endTurn.", () -> {
            EncounterLedger x = poisonedToDeath();
            x.endTurn();
            Due.refused("move", x, x.move(35), 3);
            Due.refused("strike", x, x.strike(0), 3);
            Due.refused("delay", x, x.delay(0), 3);
            Due.is("whose turn it is", x.turn(1), 1);
            Due.is("endTurn", x.endTurn(), 0);
            Due.is("round", x.turn(0), 2);
        });
        Edge.says("In doubt", "Conditions stay when their source goes down.", () -> {
            EncounterLedger x = Edge.fighting("s0:k4139,k0112", "s0:h99");
            Edge.castOn(x, 0, 1);
            x.endTurn();
            Edge.castOn(x, 1, 0);
            Due.is("both stay", x.condition(-1, 0), 2);
            x.endTurn();
            Due.is("turns of one down count for them", x.condition(1, 5), 1);
            x.endTurn();
            x.endTurn();
            Due.is("and end them", x.condition(-1, 0), 1);
        });
    }

    /** A foe with the life 9, and the poison that takes all of it when its turn begins. */
    private static EncounterLedger poisonedToDeath() {
        EncounterLedger x = new EncounterLedger();
        Due.read(x, 0, "s0:k0939");
        x.add(0, 44, 50, 9, 4);
        x.add(1, 45, 9, -5, 4);
        x.begin(Edge.HERO_FIRST);
        Edge.castOn(x, 0, 1);
        return x;
    }

    private static void harms() {
        Edge.says("In doubt", "Harm by poison ends sleep like other harm.", () -> {
            EncounterLedger x = Edge.fighting("s0:k5139,k0139,k4129");
            Edge.castOn(x, 0, 1);
            Due.is("asleep", x.fighter(1, 6), 0);
            int before = x.entry(-1, 0);
            x.endTurn();
            Edge.entries(x, before, 9, 0, 1, 8, 1, 1, 1, 1, 1, 4, 1, 5, 4, 1, 4);
            Due.is("awake in its turn", x.fighter(1, 6), 1);
            Due.is("it strikes", x.strike(0), 5);
        });
        Edge.says("In doubt", "Harm of 0 with marks is what the marks tell.", () -> {
            EncounterLedger x = Edge.fighting("s0:k4729", "s0:h0");
            Edge.castOn(x, 0, 1);
            Due.nextTurnOf(x, 0);
            Edge.castOn(x, 1, 1);
            Due.is("life", x.fighter(1, 2), 43);
            Due.is("the mark ends by it", x.condition(-1, 0), 0);
            Due.nextTurnOf(x, 0);
            Edge.castOn(x, 1, 1);
            Due.is("without marks it is 0", x.fighter(1, 2), 43);
        });
        Edge.says("In doubt", "All harm is counted by what lives lost.", () -> {
            EncounterLedger x = Edge.fighting("s0:h48", "s0:k0939");
            Edge.castOn(x, 0, 1);
            Due.nextTurnOf(x, 0);
            Edge.castOn(x, 1, 1);
            x.endTurn();
            Due.is("the account of harm", x.account(4), 50);
            Due.is("the entry of harm", x.entry(x.entry(-1, 0) - 2, 2), 2);
            EncounterLedger y = new EncounterLedger();
            y.add(0, 44, 50, 9, 4);
            y.add(1, 45, 3, -5, 4);
            y.begin(Edge.HERO_FIRST);
            Due.is("a strike", y.strike(1), 3);
            Due.is("the account of harm", y.account(4), 3);
        });
    }

    private static void steps() {
        Edge.says("In doubt", "Steps of several moves in a turn add up, also behind acting", () -> {
            EncounterLedger x = Edge.fighting("s0:h0");
            Due.is("one step", x.move(54), 3);
            Due.is("and back", x.move(44), 2);
            x.cast(0, 0, 0);
            Due.is("one behind acting", x.move(54), 1);
            Due.is("the last one", x.move(44), 0);
            Due.refused("no fifth one", x, x.move(54), 6);
        });
        Edge.says("In doubt", "its own cell is not free", () -> {
            EncounterLedger x = Edge.fighting();
            Due.refused("move", x, x.move(44), 5);
            Due.is("steps", x.turn(2), 4);
            Due.is("entries", x.entry(-1, 0), 3);
        });
        Edge.says("In doubt", "fighters of its own side can be passed.", () -> {
            EncounterLedger x = new EncounterLedger();
            x.add(0, 0, 50, 9, 4);
            x.add(0, 1, 50, -5, 4);
            x.add(0, 2, 50, -5, 4);
            for (int column = 0; column < 10; column++) {
                x.wall(Due.cell(column, 1));
            }
            x.begin(Due.seed(20, 1, 1));
            Due.is("way", x.way(3), 3);
            Due.is("move", x.move(3), 1);
            EncounterLedger y = new EncounterLedger();
            y.add(0, 0, 50, 9, 4);
            y.add(1, 1, 50, -5, 4);
            y.wall(10);
            y.begin(Edge.HERO_FIRST);
            Due.is("but none of the other side", y.way(2), -5);
        });
        Edge.says("In doubt", "way() is told also if the fighter cannot act.", () -> {
            EncounterLedger x = Edge.fighting("s0:k1139", "s0:h99");
            Edge.castOn(x, 0, 1);
            x.endTurn();
            Due.is("stunned", x.way(46), 1);
            Due.is("stunned, its own cell", x.way(45), 0);
            x.endTurn();
            Edge.castOn(x, 1, 1);
            x.endTurn();
            Due.is("down", x.way(46), 1);
        });
    }

    private static void strikes() {
        Edge.says("In doubt", "Nobody of the same side can be struck (reason 7).", () -> {
            Edge.state("itself", Edge::fight, x -> x.strike(0), 7);
            Edge.state("a friend beside it", x -> {
                Edge.fight(x);
                x.add(0, 43, 5, 0, 1);
            }, x -> x.strike(2), 7);
        });
    }

    private static void arguments() {
        Edge.says("In doubt", "Cells and directions must exist for all shapes.", () -> {
            for (int shape = 0; shape < 4; shape++) {
                int one = shape;
                Edge.Setup setup = x -> {
                    Due.read(x, 0, "sdcl".charAt(one) + "1:h1");
                    Edge.fight(x);
                };
                for (int no : new int[] {-1, 4}) {
                    Edge.error("area", setup, x -> x.area(one, 44, no, 1, -1), Edge.NONE);
                    Edge.error("cast", setup, x -> x.cast(0, 44, no), Edge.NONE);
                }
                for (int no : new int[] {-1, 100}) {
                    Edge.error("area", setup, x -> x.area(one, no, 0, 1, -1), Edge.NONE);
                    Edge.error("cast", setup, x -> x.cast(0, no, 0), Edge.NONE);
                }
            }
        });
    }

    private static void turns() {
        Edge.says("In doubt", "finish() counts the round that goes on.", () -> {
            EncounterLedger x = Edge.fighting();
            for (int turns = 0; turns < 5; turns++) {
                x.endTurn();
            }
            Due.is("the second turn of the third round", x.finish(), 3);
            Due.is("the first turn of the first round", Edge.fighting().finish(), 1);
        });
        Edge.says("In doubt", "Delaying behind itself is refused with 11.",
            () -> Edge.state("delay(0)", Edge::fight, x -> x.delay(0), 11));
        Edge.says("In doubt", "Turns that begin by a delay count.", () -> {
            EncounterLedger x = Edge.fighting("s0:k4111");
            x.delay(1);
            Due.is("turns", x.account(7), 2);
            Due.is("turns of the one that was next", x.replayed(1, 4), 1);
            x.endTurn();
            Edge.castOn(x, 0, 1);
            x.finish();
            x.begin(Edge.HERO_FIRST);
            x.delay(1);
            Due.is("turns", x.account(7), 5);
            Due.is("turns of the hero", x.replayed(0, 4), 3);
        });
    }

    private static void reasons() {
        Edge.says("In doubt", "The reason is neither undone nor saved.", () -> {
            EncounterLedger x = new EncounterLedger();
            x.wall(1);
            x.finish();
            x.back();
            Due.is("not undone", x.reason(), 1);
            x.image();
            x.rest(0);
            x.undo();
            Due.is("not saved", x.reason(), 10);
        });
    }

    private static void errorsLeaveTheState() {
        Edge.says("Errors", "A call that returns an error code leaves the state unchanged", () -> {
            Edge.Setup setup = x -> {
                Due.read(x, 0, "s5:k4139,h1$02");
                Edge.fight(x);
                x.image();
                x.move(34);
                x.cast(0, 44, 0);
                Due.feed(x, "abc");
            };
            Edge.error("add", setup, x -> x.add(0, 0, 100, 0, 1), Edge.BAD);
            Edge.state("add", setup, x -> x.add(0, 45, 9, 0, 1), 5);
            Edge.state("wall", setup, x -> x.wall(34), 5);
            Edge.state("amount", setup, x -> x.amount(0, 0, 1), 2);
            Edge.state("begin", setup, x -> x.begin(1), 2);
            Edge.state("delay", setup, x -> x.delay(1), 4);
            Edge.state("move", setup, x -> x.move(99), 6);
            Edge.state("strike", setup, x -> x.strike(1), 4);
            Edge.state("cast", setup, x -> x.cast(0, 44, 0), 4);
            Edge.state("rest", setup, x -> x.rest(1), 2);
            Edge.error("feed", setup, x -> x.feed(5, 0, 0, 0, 0, 128), Edge.BAD);
            Edge.error("power", setup, x -> x.power(4), Edge.NONE);
            Edge.error("turn", setup, x -> x.turn(5), Edge.NONE);
        });
        Edge.says("Errors", "except that power empties the tape unless it returns NONE.", () -> {
            EncounterLedger x = Edge.fighting("s0:h1");
            EncounterLedger without = Edge.fighting("s0:h1");
            Due.feed(x, "s0:x");
            Due.is("no such number", x.power(4), Edge.NONE);
            Due.is("tape", x.count(0), 4);
            Due.is("a wrong text", x.power(0), -103);
            Due.is("tape", x.count(0), 0);
            Edge.alike("all else is as it was", without, x);
            Due.is("changes", x.count(1), without.count(1));
            Due.is("a right text", Due.read(x, 0, "s0:h1"), 1);
            Due.is("tape", x.count(0), 0);
        });
    }

    private static void firstErrors() {
        Edge.says("Errors", "If several errors apply, the one that is listed first in the @return line is returned.", () -> {
            Edge.Setup eight = x -> {
                for (int i = 0; i < 8; i++) {
                    x.add(0, i, 5, 0, 1);
                }
            };
            Edge.error("add, all of them", eight, x -> x.add(2, 0, 0, 0, 1), Edge.NONE);
            Edge.error("add, all but NONE", eight, x -> x.add(0, 0, 0, 0, 1), Edge.BAD);
            Edge.state("add, STATE and FULL", eight, x -> x.add(0, 0, 1, 0, 1), 5);
            Edge.error("add, FULL alone", eight, x -> x.add(0, 8, 1, 0, 1), Edge.FULL);
            Edge.error("amount, all of them", Edge::fight, x -> x.amount(9, 0, 10), Edge.NONE);
            Edge.error("amount, all but NONE", Edge::fight, x -> x.amount(0, 0, 10), Edge.BAD);
            Edge.state("amount, STATE alone", Edge::fight, x -> x.amount(0, 0, 9), 2);
            Edge.error("feed, both", x -> Due.feed(x, "1234567890123456789012345678901234567890"),
                x -> x.feed(1, -1, 0, 0, 0, 0), Edge.BAD);
            Edge.error("delay, both", Edge::pair, x -> x.delay(2), Edge.NONE);
            Edge.error("move, both", Edge::pair, x -> x.move(100), Edge.NONE);
            Edge.error("strike, both", Edge::pair, x -> x.strike(2), Edge.NONE);
            Edge.error("cast, both", Edge::pair, x -> x.cast(0, 44, 4), Edge.NONE);
            Edge.error("rest, both", Edge::fight, x -> x.rest(2), Edge.NONE);
            Edge.error("area, both", Edge::pair, x -> x.area(4, 0, 0, 6, -2), Edge.NONE);
            Edge.error("way, both", Edge::pair, x -> x.way(100), Edge.NONE);
        });
    }

    private static void codes() {
        Edge.says("Errors", "NONE means that a number or selector is invalid, BAD that a value is out of range, STATE that the "
            + "state forbids the call, and FULL that a limit is reached.", () -> {
                Due.is("NONE", EncounterLedger.NONE, -1);
                Due.is("BAD", EncounterLedger.BAD, -2);
                Due.is("STATE", EncounterLedger.STATE, -3);
                Due.is("FULL", EncounterLedger.FULL, -4);
            });
        Edge.says("Errors", "Sets of cells and fighters are told by numbers one by one.", () -> {
            EncounterLedger x = Edge.fighting();
            Due.is("the first fighter in the order", x.turn(10), 0);
            Due.is("the second", x.turn(11), 1);
            Due.is("no third", x.turn(12), -5);
            Due.is("the first cell of an area", x.area(1, 0, 0, 1, 0), 0);
            Due.is("the second", x.area(1, 0, 0, 1, 1), 1);
            Due.is("the third", x.area(1, 0, 0, 1, 2), 10);
            Due.is("no fourth", x.area(1, 0, 0, 1, 3), -5);
        });
    }

    private static void noErrors() {
        Edge.says("Errors", "The result -5 is returned only if no error applies.", () -> {
            EncounterLedger x = Edge.paired();
            Due.is("turn without an encounter", x.turn(9), Edge.NONE);
            Due.is("turn without an encounter", x.turn(-5), Edge.NONE);
            Due.is("place without an encounter", x.fighter(2, 7), -100);
            Due.is("area with a wrong size", x.area(0, 0, 0, 6, 100), Edge.BAD);
            Due.is("area with a wrong cell", x.area(0, 100, 0, 0, 100), Edge.NONE);
            Due.is("way to no cell", x.way(-5), Edge.NONE);
            Due.refused("way to a fighter, without an encounter", x, x.way(45), 1);
            Due.is("the cell of no fighter", x.replayed(2, 3), Edge.NONE);
        });
    }
}

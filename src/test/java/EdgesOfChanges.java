/** The edges of promises 24 to 27, and of what the document says of changes and the snapshot. */
final class EdgesOfChanges {
    private EdgesOfChanges() {
    }

    static void run() {
        eachChange();
        noChanges();
        sixChanges();
        goingBack();
        images();
        snapshots();
        undoing();
        counts();
    }

    /** A snapshot is taken early, a wall stands, both have conditions, and it is the second turn of the hero. */
    private static void deep(EncounterLedger x) {
        x.wall(99);
        Edge.read(x, "s5:k4139,k2129,h2$11", "s0:h1");
        Edge.fight(x);
        x.cast(0, 44, 0);
        x.endTurn();
        x.cast(0, 44, 0);
        x.endTurn();
        x.move(34);
    }

    private static void rested(EncounterLedger x) {
        deep(x);
        x.finish();
        x.back();
        x.finish();
    }

    /** Behind the call and back all is as it was ahead of the call, and the call had altered something. */
    private static void undone(String name, Edge.Setup setup, Edge.Call call) {
        EncounterLedger without = new EncounterLedger();
        setup.on(without);
        EncounterLedger with = new EncounterLedger();
        setup.on(with);
        int changes = with.count(1);
        Due.holds(name + " goes", call.on(with) >= 0);
        Due.is("changes behind " + name, with.count(1), Math.min(6, changes + 1));
        Due.is("back behind " + name, with.back(), Math.min(5, changes));
        Edge.alike("all is as it was ahead of " + name, without, with);
        EncounterLedger again = new EncounterLedger();
        setup.on(again);
        call.on(again);
        Due.holds(name + " alters something", !java.util.Arrays.equals(Edge.look(again), Edge.look(without)));
    }

    private static void eachChange() {
        Edge.says("Changes", "The successful calls of add, wall, amount, begin, finish, endTurn, delay, move, strike, power, "
            + "cast and rest are changes", () -> {
                undone("add", EdgesOfChanges::deep, x -> x.add(1, 0, 9, 9, 9));
                undone("the first add", x -> { }, x -> x.add(1, 0, 9, 9, 9));
                undone("wall", EdgesOfChanges::deep, x -> x.wall(0));
                undone("wall taken away", EdgesOfChanges::deep, x -> x.wall(99));
                undone("amount", EdgesOfChanges::rested, x -> x.amount(0, 1, 8));
                undone("begin", EdgesOfChanges::rested, x -> x.begin(5));
                undone("finish", EdgesOfChanges::deep, EncounterLedger::finish);
                undone("endTurn", EdgesOfChanges::deep, EncounterLedger::endTurn);
                undone("delay", EdgesOfChanges::deep, x -> x.delay(1));
                undone("move", EdgesOfChanges::deep, x -> x.move(44));
                undone("strike", Edge::fight, x -> x.strike(1));
                undone("cast", EdgesOfChanges::deep, x -> x.cast(0, 44, 0));
                undone("cast that meets nobody", EdgesOfChanges::deep, x -> x.cast(1, 0, 0));
                undone("a short rest", EdgesOfChanges::rested, x -> x.rest(0));
                undone("a long rest", EdgesOfChanges::rested, x -> x.rest(1));
                undone("power", x -> {
                    deep(x);
                    Due.feed(x, "s1:h1");
                }, x -> x.power(3));
                EncounterLedger x = Edge.fighting("s0:h7");
                Due.read(x, 0, "s0:h9");
                x.back();
                Edge.castOn(x, 0, 1);
                Due.is("the earlier power is there again", x.fighter(1, 2), 43);
            });
    }

    private static void noChange(String name, Edge.Setup setup, Edge.Call call) {
        EncounterLedger x = new EncounterLedger();
        setup.on(x);
        int changes = x.count(1);
        call.on(x);
        Due.is("changes behind " + name, x.count(1), changes);
    }

    private static void noChanges() {
        Edge.says("Changes", "The successful calls", () -> {
            noChange("add on a fighter", Edge::fight, x -> x.add(0, 44, 5, 0, 1));
            noChange("wall below a fighter", Edge::fight, x -> x.wall(44));
            noChange("amount in an encounter", Edge::fight, x -> x.amount(0, 0, 1));
            noChange("a second begin", Edge::fight, x -> x.begin(1));
            noChange("finish without an encounter", Edge::pair, EncounterLedger::finish);
            noChange("endTurn without an encounter", Edge::pair, EncounterLedger::endTurn);
            noChange("delay behind itself", Edge::fight, x -> x.delay(0));
            noChange("move too far", Edge::fight, x -> x.move(99));
            noChange("strike of itself", Edge::fight, x -> x.strike(0));
            noChange("power from a wrong text", x -> Due.feed(x, "x"), x -> x.power(0));
            noChange("cast of no power", Edge::fight, x -> x.cast(0, 44, 0));
            noChange("rest in an encounter", Edge::fight, x -> x.rest(1));
            noChange("feed", Edge::fight, x -> x.feed(1, 0, 0, 0, 0, 0));
            noChange("image", Edge::fight, EncounterLedger::image);
            noChange("undo without a snapshot", Edge::fight, EncounterLedger::undo);
            noChange("way", Edge::fight, x -> x.way(99));
        });
        Edge.says("Changes", "are changes", () -> {
            undone("a wall, with the next ones undone", x -> {
                Edge.pair(x);
                x.wall(1);
                x.back();
            }, x -> x.wall(2));
            EncounterLedger x = Edge.paired();
            Due.is("a rest that gives nothing", x.rest(0), 0);
            Due.is("is a change", x.count(1), 3);
            Due.is("an amount that is the same", x.amount(0, 0, 2), 2);
            Due.is("is a change", x.count(1), 4);
        });
    }

    private static void sixChanges() {
        Edge.says("Changes", "at most 6 of them can be undone, the latest first.", () -> {
            for (int walls = 0; walls <= 20; walls++) {
                EncounterLedger x = new EncounterLedger();
                for (int cell = 0; cell < walls; cell++) {
                    x.wall(cell);
                }
                int changes = Math.min(6, walls);
                Due.is("changes behind " + walls, x.count(1), changes);
                for (int left = changes - 1; left >= 0; left--) {
                    Due.is("back", x.back(), left);
                    Due.is("walls", x.account(9), walls - changes + left);
                    Due.is("the latest wall is none", x.add(0, walls - changes + left, 5, 0, 1), 0);
                    x.back();
                }
                Due.refused("one back more", x, x.back(), 10);
                Due.is("walls", x.account(9), walls - changes);
            }
        });
        Edge.says("Changes", "at most 6 of them", () -> {
            EncounterLedger x = new EncounterLedger();
            for (int i = 0; i < 100; i++) {
                x.wall(i);
                if (i % 3 == 0) {
                    x.back();
                }
            }
            Due.is("changes", x.count(1), 5);
            x.wall(0);
            Due.is("changes", x.count(1), 6);
            int walls = x.account(9);
            for (int left = 5; left >= 0; left--) {
                Due.is("back", x.back(), left);
                Due.is("walls", x.account(9), --walls);
            }
            Due.refused("one back more", x, x.back(), 10);
        });
    }

    private static void goingBack() {
        Edge.says("24", "Undoes the latest change that was not undone.", () -> {
            EncounterLedger x = new EncounterLedger();
            x.wall(1);
            x.wall(2);
            x.wall(3);
            x.back();
            x.wall(4);
            x.back();
            x.back();
            Due.is("walls", x.account(9), 1);
            Due.is("the first is left", x.wall(1), 0);
            Due.is("the second is not", x.wall(2), 1);
        });
        Edge.says("24", "Returns the number of changes that can still be undone", () -> {
            EncounterLedger x = Edge.fighting();
            Due.is("of three", x.back(), 2);
            Due.is("of two", x.back(), 1);
            Due.is("of one", x.back(), 0);
            Due.is("fighters", x.account(0), 0);
        });
        Edge.says("24", "STATE with the reason 10.", () -> {
            Edge.state("of none", x -> { }, EncounterLedger::back, 10);
            Edge.state("of one that was undone", x -> {
                x.wall(1);
                x.back();
            }, EncounterLedger::back, 10);
            Edge.state("of seven, with six undone", x -> {
                for (int i = 0; i < 7; i++) {
                    x.wall(i);
                }
                for (int i = 0; i < 6; i++) {
                    x.back();
                }
            }, EncounterLedger::back, 10);
            Edge.state("behind undo", x -> {
                x.image();
                x.wall(1);
                x.undo();
            }, EncounterLedger::back, 10);
        });
    }

    private static void images() {
        Edge.says("25", "Takes a snapshot, in place of an earlier one.", () -> {
            EncounterLedger x = new EncounterLedger();
            x.wall(1);
            x.image();
            x.wall(2);
            x.image();
            x.wall(3);
            x.undo();
            Due.is("walls of the later one", x.account(9), 2);
            x.back();
            x.wall(4);
            x.undo();
            Due.is("once more", x.account(9), 2);
        });
        Edge.says("25", "Returns the number of fighters.", () -> {
            EncounterLedger x = new EncounterLedger();
            for (int i = 0; i < 8; i++) {
                Due.is("image", x.image(), i);
                x.add(0, i, 5, 0, 1);
            }
            Due.is("image", x.image(), 8);
        });
    }

    private static void snapshots() {
        Edge.says("Snapshot", "The snapshot contains everything", () -> {
            Edge.Setup[] states = {x -> { }, Edge::pair, EdgesOfChanges::deep, EdgesOfChanges::rested};
            Edge.Setup[] later = {Edge::fight, EdgesOfChanges::deep, x -> {
                x.cast(1, 45, 0);
                x.endTurn();
                x.delay(0);
                x.wall(0);
                x.add(0, 1, 5, 0, 1);
                x.finish();
                x.amount(1, 1, 9);
                x.rest(1);
                Due.read(x, 3, "s0:h1");
                x.begin(1);
            }, x -> x.wall(1)};
            for (Edge.Setup state : states) {
                for (Edge.Setup one : later) {
                    EncounterLedger without = new EncounterLedger();
                    state.on(without);
                    EncounterLedger with = new EncounterLedger();
                    state.on(with);
                    with.image();
                    one.on(with);
                    with.undo();
                    one.on(with);
                    with.undo();
                    Edge.alike("all is as it was", without, with);
                }
            }
        });
        Edge.says("Snapshot", "contains everything", () -> {
            EncounterLedger x = Edge.fighting("s0:h1");
            x.move(34);
            x.strike(0);
            x.endTurn();
            x.image();
            x.back();
            x.back();
            x.move(43);
            x.cast(0, 45, 0);
            x.endTurn();
            x.move(55);
            Due.is("other entries", x.entry(3, 2), 43);
            x.undo();
            Edge.entries(x, 0, 0, 0, 50, 0, 1, 50, 8, 0, 1, 7, 0, 34, 9, 0, 1, 8, 1, 1);
            Due.is("replayed cell of the hero", x.replayed(0, 3), 34);
        });
        Edge.says("Snapshot", "contains everything but", () -> {
            EncounterLedger x = new EncounterLedger();
            x.add(0, 44, 20, 9, 4);
            x.begin(1);
            for (int i = 0; i < 149; i++) {
                x.endTurn();
            }
            x.image();
            for (int i = 0; i < 3; i++) {
                x.back();
                x.move(45);
                x.move(44);
                x.undo();
                Due.is("all entries", x.entry(-1, 0), 300);
                Due.is("the last but one", x.entry(298, 0), 9);
                Due.is("the last one", x.entry(299, 2), 150);
                x.endTurn();
                x.undo();
                Due.is("all are kept again", x.replayed(0, 4), 150);
            }
        });
        Edge.says("Snapshot", "but itself", () -> {
            EncounterLedger x = new EncounterLedger();
            x.wall(1);
            x.image();
            x.undo();
            x.undo();
            Due.is("it is there still", x.undo(), 0);
            x.wall(2);
            Due.is("also behind a change", x.undo(), 0);
            Due.is("walls", x.account(9), 1);
        });
        Edge.says("Snapshot", "the tape", () -> {
            EncounterLedger x = new EncounterLedger();
            Due.feed(x, "s0:");
            x.image();
            Due.feed(x, "h1");
            x.undo();
            Due.is("what was fed later stays", x.count(0), 5);
            Due.is("it is a text", x.power(0), 1);
            x.undo();
            Due.is("what was read does not come again", x.count(0), 0);
            Due.is("but its power is gone", x.count(2), 0);
        });
        Edge.says("Snapshot", "the reason", () -> {
            EncounterLedger x = new EncounterLedger();
            x.finish();
            x.image();
            x.begin(1);
            x.undo();
            Due.is("the latest one stays", x.reason(), 10);
        });
        Edge.says("Snapshot", "and the changes that can be undone.", () -> {
            EncounterLedger x = new EncounterLedger();
            x.wall(1);
            x.wall(2);
            Due.is("image", x.image(), 0);
            Due.is("taking it leaves the changes", x.count(1), 2);
            x.wall(3);
            Due.is("back goes on", x.back(), 2);
            Due.is("and on", x.back(), 1);
            Due.is("restoring it does not bring them back", x.undo(), 0);
            Due.is("changes", x.count(1), 0);
            Due.is("walls", x.account(9), 2);
        });
    }

    private static void undoing() {
        Edge.says("26", "Restores the snapshot, which stays.", () -> {
            EncounterLedger x = Edge.fighting("s0:h1");
            x.image();
            for (int i = 0; i < 3; i++) {
                x.strike(1);
                x.wall(i);
                Due.is("undo", x.undo(), 2);
                Due.is("life", x.fighter(1, 2), 50);
                Due.is("has acted", x.turn(3), 0);
                Due.is("walls", x.account(9), 0);
            }
        });
        Edge.says("26", "No changes can be undone then.", () -> {
            EncounterLedger x = new EncounterLedger();
            x.image();
            for (int i = 0; i < 9; i++) {
                x.wall(i);
            }
            x.undo();
            Due.is("changes", x.count(1), 0);
            Due.refused("back", x, x.back(), 10);
            x.wall(50);
            Due.is("a new change", x.count(1), 1);
            Due.is("can be undone", x.back(), 0);
            Due.is("to the snapshot alone", x.account(9), 0);
            Due.refused("back", x, x.back(), 10);
        });
        Edge.says("26", "Returns the number of fighters", () -> {
            EncounterLedger x = new EncounterLedger();
            x.image();
            Edge.pair(x);
            Due.is("undo", x.undo(), 0);
            Edge.pair(x);
            x.image();
            x.back();
            Due.is("undo", x.undo(), 2);
        });
        Edge.says("26", "STATE with the reason 10 if there is no snapshot.", () -> {
            Edge.state("on a new one", x -> { }, EncounterLedger::undo, 10);
            Edge.state("behind changes", Edge::fight, EncounterLedger::undo, 10);
        });
    }

    private static void counts() {
        Edge.says("27", "Returns a count.", () -> {
            EncounterLedger x = Edge.paired("s0:h1", "s0:h2");
            x.feed(1, 1, 0, 0, 0, 0);
            int[] due = {1, 4, 3};
            for (int what = 0; what < due.length; what++) {
                Due.is("count(" + what + ")", x.count(what), due[what]);
            }
        });
        Edge.says("27", "0 the bytes on the tape", () -> {
            EncounterLedger x = new EncounterLedger();
            for (int length = 0; length <= 40; length++) {
                Due.is("bytes", x.count(0), length);
                x.feed(1, 0, 0, 0, 0, 0);
            }
            Due.is("no more", x.count(0), 40);
            x.power(0);
            Due.is("none", x.count(0), 0);
        });
        Edge.says("27", "1 the changes that can be undone", () -> {
            EncounterLedger x = new EncounterLedger();
            for (int changes = 0; changes < 10; changes++) {
                Due.is("changes", x.count(1), Math.min(6, changes));
                x.wall(changes);
            }
            for (int changes = 6; changes > 0; changes--) {
                Due.is("changes", x.count(1), changes);
                x.back();
            }
            Due.is("none", x.count(1), 0);
        });
        Edge.says("27", "2 the powers, as a set", () -> {
            for (int set = 0; set < 16; set++) {
                EncounterLedger x = new EncounterLedger();
                for (int power = 0; power < 4; power++) {
                    if ((set >> power & 1) == 1) {
                        Due.read(x, power, "s0:h0");
                    }
                }
                Due.is("powers", x.count(2), set);
            }
        });
        Edge.says("27", "Returns the count", () -> {
            for (int what = 0; what < 3; what++) {
                Due.is("count(" + what + ") of a new one", new EncounterLedger().count(what), 0);
            }
        });
        Edge.says("27", "NONE if what is invalid.", () -> {
            for (int what : Edge.outside(0, 2)) {
                Edge.error("count(" + what + ")", Edge::fight, x -> x.count(what), Edge.NONE);
            }
        });
    }
}

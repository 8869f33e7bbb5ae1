/** The edges of promises 1 to 4 and 15, and of what the document says of fighters. */
final class EdgesOfFighters {
    private EdgesOfFighters() {
    }

    static void run() {
        newObject();
        adding();
        errorsOfAdd();
        walls();
        amounts();
        errorsOfAmount();
        plainNumbers();
        numbersOfTheEncounter();
        numbersOfAmountsAndConditions();
        fighters();
    }

    private static void newObject() {
        Edge.says("1", "Creates an empty grid without fighters.", () -> {
            EncounterLedger used = Edge.fighting("s0:h1");
            used.wall(5);
            EncounterLedger x = new EncounterLedger();
            Due.is("fighters", x.account(0), 0);
            Due.is("fighter(0, 0)", x.fighter(0, 0), -100);
            Due.is("walls", x.account(9), 0);
            Due.is("powers", x.count(2), 0);
            Due.is("round", x.turn(0), 0);
            for (int cell = 0; cell < 100; cell++) {
                Due.is("wall(" + cell + ")", x.wall(cell), 1);
            }
        });
        Edge.says("What it is", "An object is used for at most 512 calls after it has been made", () -> {
            EncounterLedger x = new EncounterLedger();
            for (int call = 1; call < Edge.MOST_CALLS; call++) {
                Due.is("call " + call, x.wall(7), call % 2);
            }
            Due.is("call 512", x.wall(7), 0);
        });
        Edge.says("What it is", "A ledger for encounters in a dungeon: fighters on a grid, an order of turns with ties "
            + "and delays, conditions that end when told, resources and rests, areas by shapes, powers that are read "
            + "from texts, movement around walls, a journal that is replayed, reasons, accounts, changes that are "
            + "undone, and a snapshot. The class is not thread-safe.", () -> {
                EncounterLedger one = new EncounterLedger();
                EncounterLedger other = new EncounterLedger();
                Edge.fight(one);
                Due.is("nothing is shared by two ledgers", other.add(1, 44, 7, 0, 1), 0);
                Due.is("its reason neither", other.finish(), Edge.STATE);
                Due.is("reason of the first", one.reason(), -5);
                Due.is("life of the first", one.fighter(0, 2), 50);
            });
        Edge.says("What it is", "what later calls answer is free", () -> {
            EncounterLedger x = Edge.fighting();
            int call = 0;
            while (call < 2000) {
                x.endTurn();
                x.back();
                call += 2;
            }
            Due.is("but they end, too", call, 2000);
        });
    }

    private static int addWith(EncounterLedger x, int part, int number) {
        int[] numbers = {0, 5, 5, 0, 1};
        numbers[part] = number;
        return x.add(numbers[0], numbers[1], numbers[2], numbers[3], numbers[4]);
    }

    /** A number of add, the selector that tells it, its range, and the code beyond the range. */
    private static void partOfAdd(int part, int what, int least, int most, int code) {
        for (int number = least; number <= most; number++) {
            EncounterLedger x = new EncounterLedger();
            Due.is("add with " + number, addWith(x, part, number), 0);
            Due.is("its number", x.fighter(0, what), number);
        }
        for (int number : Edge.outside(least, most)) {
            Edge.error("add with " + number, Edge::pair, x -> addWith(x, part, number), code);
        }
    }

    private static void adding() {
        Edge.says("2", "Adds a fighter.", () -> {
            EncounterLedger x = new EncounterLedger();
            Due.is("add", x.add(1, 37, 42, -3, 7), 0);
            Due.is("fighters", x.account(0), 1);
            int[] due = {1, 37, 42, 42, -3, 7};
            for (int what = 0; what < due.length; what++) {
                Due.is("fighter(0, " + what + ")", x.fighter(0, what), due[what]);
            }
        });
        Edge.says("2", "`side`: the side, 0 or 1", () -> partOfAdd(0, 0, 0, 1, Edge.NONE));
        Edge.says("2", "`cell`: the cell", () -> partOfAdd(1, 1, 0, 99, Edge.NONE));
        Edge.says("2", "`life`: the greatest life, 1 to 99", () -> partOfAdd(2, 3, 1, 99, Edge.BAD));
        Edge.says("2", "`bonus`: the bonus, -5 to 9", () -> partOfAdd(3, 4, -5, 9, Edge.BAD));
        Edge.says("2", "`speed`: the speed, 1 to 9", () -> partOfAdd(4, 5, 1, 9, Edge.BAD));
        Edge.says("2", "Returns its number", () -> {
            EncounterLedger x = new EncounterLedger();
            for (int i = 0; i < 8; i++) {
                Due.is("add", x.add(i % 2, 99 - i, 5, 0, 1), i);
                Due.is("its cell", x.fighter(i, 1), 99 - i);
            }
        });
    }

    private static void eight(EncounterLedger x) {
        for (int i = 0; i < 8; i++) {
            x.add(i % 2, 40 + i, 5, 0, 1);
        }
    }

    private static void errorsOfAdd() {
        Edge.says("2", "NONE if there is no such side or cell", () -> {
            Edge.error("no side, and all else wrong", EdgesOfFighters::eight, x -> x.add(2, 40, 0, 10, 0), Edge.NONE);
            Edge.error("no cell, and all else wrong", EdgesOfFighters::eight, x -> x.add(0, 100, 0, 10, 0), Edge.NONE);
            Edge.error("no cell, and no more room", EdgesOfFighters::eight, x -> x.add(0, -1, 5, 0, 1), Edge.NONE);
        });
        Edge.says("2", "BAD if another number is out of range", () -> {
            Edge.error("BAD is ahead of STATE", EdgesOfFighters::eight, x -> x.add(0, 40, 0, 0, 1), Edge.BAD);
            Edge.error("BAD is ahead of FULL", EdgesOfFighters::eight, x -> x.add(0, 50, 100, 0, 1), Edge.BAD);
            Edge.error("a bonus of -6", EdgesOfFighters::eight, x -> x.add(0, 50, 5, -6, 1), Edge.BAD);
            Edge.error("a speed of 10", EdgesOfFighters::eight, x -> x.add(0, 50, 5, 0, 10), Edge.BAD);
        });
        Edge.says("2", "STATE with the reason 5", () -> {
            Edge.state("on a fighter of its side", Edge::pair, x -> x.add(0, 44, 5, 0, 1), 5);
            Edge.state("on a fighter of the other side", Edge::pair, x -> x.add(0, 45, 5, 0, 1), 5);
            Edge.state("on a wall", x -> x.wall(99), x -> x.add(0, 99, 5, 0, 1), 5);
            Edge.state("STATE is ahead of FULL", EdgesOfFighters::eight, x -> x.add(0, 40, 5, 0, 1), 5);
        });
        Edge.says("2", "FULL if there are 8 fighters.", () -> {
            Edge.error("the ninth", EdgesOfFighters::eight, x -> x.add(1, 50, 5, 0, 1), Edge.FULL);
            EncounterLedger x = new EncounterLedger();
            eight(x);
            x.back();
            Due.is("the eighth again", x.add(1, 50, 5, 0, 1), 7);
        });
    }

    private static void walls() {
        Edge.says("3", "Makes a cell a wall, or no longer one.", () -> {
            EncounterLedger x = new EncounterLedger();
            x.wall(5);
            Due.refused("add on the wall", x, x.add(0, 5, 5, 0, 1), 5);
            x.wall(5);
            Due.is("add where it was", x.add(0, 5, 5, 0, 1), 0);
        });
        Edge.says("3", "`cell`: the cell", () -> {
            for (int cell = 0; cell < 100; cell++) {
                EncounterLedger x = new EncounterLedger();
                Due.is("wall(" + cell + ")", x.wall(cell), 1);
                Due.refused("add on " + cell, x, x.add(0, cell, 5, 0, 1), 5);
                Due.is("add beside it", x.add(0, (cell + 1) % 100, 5, 0, 1), 0);
            }
        });
        Edge.says("3", "Returns 1 if it is a wall then, otherwise 0", () -> {
            EncounterLedger x = new EncounterLedger();
            Due.is("wall", x.wall(99), 1);
            Due.is("walls", x.account(9), 1);
            Due.is("wall again", x.wall(99), 0);
            Due.is("walls", x.account(9), 0);
            Due.is("wall once more", x.wall(99), 1);
        });
        Edge.says("3", "NONE if there is no such cell", () -> {
            for (int cell : Edge.outside(0, 99)) {
                Edge.error("wall(" + cell + ")", Edge::pair, x -> x.wall(cell), Edge.NONE);
            }
        });
        Edge.says("3", "STATE with the reason 5 if a fighter is there.", () -> {
            Edge.state("wall below the hero", Edge::fight, x -> x.wall(44), 5);
            Edge.state("wall below the foe", Edge::fight, x -> x.wall(45), 5);
            EncounterLedger x = Edge.fighting("s0:h99");
            Edge.castOn(x, 0, 1);
            Due.refused("wall below one down", x, x.wall(45), 5);
            x.move(34);
            Due.is("wall where the hero was", x.wall(44), 1);
            Due.refused("wall below the hero", x, x.wall(34), 5);
        });
    }

    private static void amounts() {
        Edge.says("4", "Sets the greatest amount of a resource; the amount becomes the same.", () -> {
            EncounterLedger x = Edge.fighting("s0:h1$12");
            Edge.castOn(x, 0, 1);
            x.finish();
            Due.is("amount", x.fighter(0, 11), 1);
            x.amount(0, 1, 3);
            Due.is("amount behind a like greatest one", x.fighter(0, 11), 3);
            x.amount(0, 1, 2);
            Due.is("a lower amount", x.fighter(0, 11), 2);
            Due.is("greatest amount", x.fighter(0, 21), 2);
            Due.is("of another resource", x.fighter(0, 10), 2);
            Due.is("of another fighter", x.fighter(1, 21), 3);
            Due.is("it tells no entry", x.entry(x.entry(-1, 0) - 1, 0), 1);
        });
        Edge.says("4", "`amount`: the greatest amount, 0 to 9", () -> {
            for (int amount = 0; amount <= 9; amount++) {
                EncounterLedger x = Edge.paired();
                Due.is("amount before", x.amount(1, 2, amount), 1);
                Due.is("greatest amount", x.fighter(1, 22), amount);
                Due.is("amount", x.fighter(1, 12), amount);
            }
        });
        Edge.says("4", "Returns the greatest amount before", () -> {
            EncounterLedger x = Edge.fighting("s0:h1$01");
            Edge.castOn(x, 0, 1);
            x.finish();
            Due.is("not the amount that is left", x.amount(0, 0, 0), 2);
            Due.is("the lowest one", x.amount(0, 0, 9), 0);
            Due.is("the greatest one", x.amount(0, 0, 9), 9);
        });
    }

    private static void errorsOfAmount() {
        Edge.says("4", "`fighter`: the fighter", () -> {
            for (int fighter : Edge.outside(0, 1)) {
                Edge.error("amount(" + fighter + ", 0, 1)", Edge::pair, x -> x.amount(fighter, 0, 1), Edge.NONE);
            }
        });
        Edge.says("4", "`resource`: the resource", () -> {
            for (int resource : Edge.outside(0, 2)) {
                Edge.error("amount(0, " + resource + ", 1)", Edge::pair, x -> x.amount(0, resource, 1), Edge.NONE);
            }
            EncounterLedger x = Edge.paired();
            int[] first = {2, 3, 1};
            for (int resource = 0; resource < 3; resource++) {
                Due.is("amount before", x.amount(0, resource, 4 + resource), first[resource]);
            }
            for (int resource = 0; resource < 3; resource++) {
                Due.is("greatest amount", x.fighter(0, 20 + resource), 4 + resource);
            }
        });
        Edge.says("4", "NONE if there is no such fighter or resource", () -> {
            Edge.error("NONE is ahead of BAD", Edge::pair, x -> x.amount(2, 0, 10), Edge.NONE);
            Edge.error("NONE is ahead of BAD", Edge::pair, x -> x.amount(0, 3, -1), Edge.NONE);
            Edge.error("NONE is ahead of STATE", Edge::fight, x -> x.amount(-1, 0, 1), Edge.NONE);
            Edge.error("NONE is ahead of STATE", Edge::fight, x -> x.amount(0, -1, 1), Edge.NONE);
            Edge.error("no fighter at all", x -> { }, x -> x.amount(0, 0, 1), Edge.NONE);
        });
        Edge.says("4", "BAD if the amount is out of range", () -> {
            for (int amount : Edge.outside(0, 9)) {
                Edge.error("amount(0, 0, " + amount + ")", Edge::pair, x -> x.amount(0, 0, amount), Edge.BAD);
                Edge.error("BAD is ahead of STATE", Edge::fight, x -> x.amount(0, 0, amount), Edge.BAD);
            }
        });
        Edge.says("4", "STATE with the reason 2.", () -> {
            Edge.state("amount in an encounter", Edge::fight, x -> x.amount(0, 0, 2), 2);
            EncounterLedger x = Edge.fighting();
            x.finish();
            Due.is("amount behind an encounter", x.amount(0, 0, 5), 2);
        });
    }

    private static void number(String words, EncounterLedger x, int what, int ofHero, int ofFoe) {
        Edge.says("15", words, () -> {
            Due.is("fighter(0, " + what + ")", x.fighter(0, what), ofHero);
            Due.is("fighter(1, " + what + ")", x.fighter(1, what), ofFoe);
        });
    }

    private static void plainNumbers() {
        EncounterLedger x = Edge.fighting("s0:h8");
        Edge.castOn(x, 0, 1);
        x.move(34);
        number("0 its side", x, 0, 0, 1);
        number("1 its cell", x, 1, 34, 45);
        number("2 its life", x, 2, 50, 42);
        number("3 its greatest life", x, 3, 50, 50);
        number("4 its bonus", x, 4, 9, -5);
        number("5 its speed", x, 5, 4, 4);
        Edge.says("15", "Returns a number of a fighter.", () -> {
            EncounterLedger y = new EncounterLedger();
            for (int i = 0; i < 8; i++) {
                y.add(0, i, 10 + i, 0, 1);
            }
            for (int i = 0; i < 8; i++) {
                Due.is("life of " + i, y.fighter(i, 2), 10 + i);
            }
        });
        Edge.says("15", "`fighter`: the fighter", () -> {
            for (int fighter : Edge.outside(0, 1)) {
                Due.is("fighter(" + fighter + ", 0)", x.fighter(fighter, 0), -100);
            }
            Due.is("none at all", new EncounterLedger().fighter(0, 0), -100);
        });
        Edge.says("15", "Returns the number", () -> Due.is("a number below 0", x.fighter(1, 4), -5));
        Edge.says("15", "a life can be 0", () -> {
            EncounterLedger y = Edge.fighting("s0:h50");
            Edge.castOn(y, 0, 1);
            Due.is("life", y.fighter(1, 2), 0);
            Due.is("greatest life", y.fighter(1, 3), 50);
        });
        Edge.says("15", "-100 if there is no such fighter or what is invalid.", () -> {
            int[] invalid = {-1, 13, 14, 19, 23, 24, 29, 36, 40, -100, Integer.MIN_VALUE, Integer.MAX_VALUE};
            for (int what : invalid) {
                Due.is("fighter(0, " + what + ")", x.fighter(0, what), -100);
                Due.is("fighter(2, " + what + ")", x.fighter(2, what), -100);
            }
        });
    }

    private static void numbersOfTheEncounter() {
        Edge.says("15", "6: 1 if it can act, otherwise 0", () -> {
            EncounterLedger x = Edge.paired("s0:k1139");
            Due.is("without an encounter", x.fighter(1, 6), 1);
            x.begin(Edge.HERO_FIRST);
            Due.is("also if it is not its turn", x.fighter(1, 6), 1);
            Edge.castOn(x, 0, 1);
            Due.is("stunned", x.fighter(1, 6), 0);
            Due.is("the one that has acted can act", x.fighter(0, 6), 1);
        });
        Edge.says("15", "7 its place in the order of turns, -5 without one", () -> {
            EncounterLedger x = Edge.paired();
            Due.is("ahead of the encounter", x.fighter(0, 7), -5);
            x.begin(Due.seed(1, 20));
            x.add(0, 0, 5, 0, 1);
            Due.is("first", x.fighter(1, 7), 0);
            Due.is("last", x.fighter(0, 7), 1);
            Due.is("added later", x.fighter(2, 7), -5);
            x.delay(0);
            Due.is("delayed", x.fighter(1, 7), 1);
            x.finish();
            Due.is("behind the encounter", x.fighter(1, 7), -5);
        });
        Edge.says("15", "8 its score, -5 without one", () -> {
            EncounterLedger x = Edge.paired();
            Due.is("ahead of the encounter", x.fighter(0, 8), -5);
            x.begin(Due.seed(20, 1));
            x.add(0, 0, 5, 0, 1);
            Due.is("the greatest one", x.fighter(0, 8), 29);
            Due.is("the least one", x.fighter(1, 8), -4);
            Due.is("added later", x.fighter(2, 8), -5);
            x.finish();
            Due.is("behind the encounter", x.fighter(0, 8), -5);
        });
    }

    private static void numbersOfAmountsAndConditions() {
        Edge.says("15", "9 the number of its conditions", () -> {
            EncounterLedger x = Edge.fighting("s0:k0139,k4139", "s0:k0239,k5139");
            Due.is("none", x.fighter(1, 9), 0);
            Edge.castOn(x, 0, 1);
            Due.is("two", x.fighter(1, 9), 2);
            Due.is("not those that it made", x.fighter(0, 9), 0);
            x.endTurn();
            x.endTurn();
            Edge.castOn(x, 1, 1);
            Due.is("one made again, one new", x.fighter(1, 9), 3);
        });
        Edge.says("15", "10 + r the amount, 20 + r the greatest amount of resource r", () -> {
            for (int resource = 0; resource < 3; resource++) {
                EncounterLedger x = Edge.fighting("s0:h1$" + resource + "1");
                Edge.castOn(x, 0, 1);
                int[] most = {2, 3, 1};
                for (int r = 0; r < 3; r++) {
                    Due.is("amount " + r, x.fighter(0, 10 + r), most[r] - (r == resource ? 1 : 0));
                    Due.is("greatest amount " + r, x.fighter(0, 20 + r), most[r]);
                }
            }
        });
        Edge.says("15", "30 + k the sum of the values of its conditions of kind k", () -> {
            for (int kind = 0; kind < 6; kind++) {
                EncounterLedger x = new EncounterLedger();
                Edge.read(x, "s5:k" + kind + "939", "s5:k" + kind + "439");
                x.add(0, 44, 50, 9, 4);
                x.add(1, 46, 50, -5, 4);
                x.add(0, 45, 50, 5, 4);
                x.begin(Due.seed(20, 1, 10));
                int target = kind == 2 || kind == 3 ? 0 : 1;
                Due.is("without one", x.fighter(target, 30 + kind), 0);
                x.cast(0, 44, 0);
                x.endTurn();
                x.cast(1, 44, 0);
                Due.is("of two sources", x.fighter(target, 30 + kind), 13);
                Due.is("of another kind", x.fighter(target, 30 + (kind + 1) % 6), 0);
                Due.is("of another fighter", x.fighter(1 - target, 30 + kind), 0);
            }
        });
    }

    private static void fighters() {
        Edge.says("Fighters", "At most 8 fighters can be added, numbered from 0.", () -> {
            EncounterLedger x = new EncounterLedger();
            for (int i = 0; i < 8; i++) {
                Due.is("add", x.add(0, i, 5, 0, 1), i);
            }
            Due.is("the ninth", x.add(0, 8, 5, 0, 1), Edge.FULL);
            Due.is("fighters", x.account(0), 8);
        });
        Edge.says("Fighters", "A fighter has a side, 0 or 1, a cell that is no wall and on which no other fighter is, a "
            + "greatest life from 1 to 99, a life, at first the greatest one, a bonus from -5 to 9, a speed from 1 to "
            + "9, and for each of 3 resources, numbered from 0, a greatest amount from 0 to 9 and an amount, at first "
            + "the greatest one", () -> {
                EncounterLedger x = new EncounterLedger();
                x.add(0, 0, 1, -5, 1);
                x.add(1, 99, 99, 9, 9);
                Due.is("the least life at first", x.fighter(0, 2), 1);
                Due.is("the greatest life at first", x.fighter(1, 2), 99);
                for (int resource = 0; resource < 3; resource++) {
                    Due.is("amount at first", x.fighter(1, 10 + resource), x.fighter(1, 20 + resource));
                }
            });
        Edge.says("Fighters", "these greatest amounts are 2, 3 and 1 at first", () -> {
            EncounterLedger x = Edge.paired();
            x.amount(0, 0, 9);
            x.amount(0, 1, 9);
            x.amount(0, 2, 9);
            x.add(0, 0, 5, 0, 1);
            for (int fighter = 1; fighter <= 2; fighter++) {
                Due.is("resource 0", x.fighter(fighter, 20), 2);
                Due.is("resource 1", x.fighter(fighter, 21), 3);
                Due.is("resource 2", x.fighter(fighter, 22), 1);
            }
        });
        Edge.says("Fighters", "A fighter with the life 0 is down", () -> {
            EncounterLedger x = Edge.fighting("s0:h49", "s0:h1");
            Edge.castOn(x, 0, 1);
            Due.is("not with the life 1", x.account(1), 0);
            Due.is("it can act", x.fighter(1, 6), 1);
            x.endTurn();
            x.endTurn();
            Edge.castOn(x, 1, 1);
            Due.is("with the life 0", x.account(1), 1);
            Due.is("it cannot act", x.fighter(1, 6), 0);
        });
        Edge.says("Fighters", "it stays on its cell", () -> {
            EncounterLedger x = Edge.fighting("s0:h99");
            Edge.castOn(x, 0, 1);
            Due.is("its cell", x.fighter(1, 1), 45);
            Due.refused("add there", x, x.add(0, 45, 5, 0, 1), 5);
            Due.refused("wall there", x, x.wall(45), 5);
            Due.refused("move there", x, x.move(45), 5);
            Due.is("way there", x.way(45), -5);
        });
    }
}

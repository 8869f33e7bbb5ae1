/** The edges of promises 20 to 23, and of what the document says of the journal and of reasons. */
final class EdgesOfJournal {
    private EdgesOfJournal() {
    }

    static void run() {
        entries();
        entriesOfFighters();
        entriesOfTurns();
        orderOfEntries();
        theFirst300();
        replayed();
        errorsOfReplayed();
        reasons();
        reasonsOfActing();
        theFirstReason();
        accounts();
        accountsOfTurns();
    }

    private static void entries() {
        Edge.says("20", "Returns a part of an entry of the journal.", () -> {
            EncounterLedger x = new EncounterLedger();
            x.add(1, 30, 12, 0, 1);
            x.add(0, 31, 99, 0, 1);
            Edge.entries(x, 0, 0, 0, 12, 0, 1, 99);
        });
        Edge.says("20", "`i`: the entry, from 0, or -1 for the number of all entries, also of those that are not kept", () -> {
            EncounterLedger x = new EncounterLedger();
            Due.is("none", x.entry(-1, 0), 0);
            x.add(1, 30, 12, 0, 1);
            Due.is("one", x.entry(-1, 0), 1);
            x.begin(1);
            for (int i = 0; i < 200; i++) {
                x.endTurn();
            }
            Due.is("all", x.entry(-1, 0), 402);
        });
        Edge.says("20", "`what`: 0 its kind, 1 its fighter, 2 its number; any value for the number of entries", () -> {
            EncounterLedger x = Edge.paired();
            Due.is("kind", x.entry(1, 0), 0);
            Due.is("fighter", x.entry(1, 1), 1);
            Due.is("number", x.entry(1, 2), 50);
            for (int what : new int[] {-1, 0, 2, 3, 100, Integer.MIN_VALUE, Integer.MAX_VALUE}) {
                Due.is("entry(-1, " + what + ")", x.entry(-1, what), 2);
            }
        });
        Edge.says("20", "Returns the part", () -> {
            EncounterLedger x = Edge.fighting();
            x.move(34);
            Edge.entries(x, 0, 0, 0, 50, 0, 1, 50, 8, 0, 1, 7, 0, 34);
        });
        Edge.says("20", "NONE if no such entry is kept or what is invalid.", () -> {
            Due.is("none at all", new EncounterLedger().entry(0, 0), Edge.NONE);
            EncounterLedger x = Edge.paired();
            for (int i : new int[] {-2, -5, 2, 3, 299, 300, Integer.MIN_VALUE, Integer.MAX_VALUE}) {
                Due.is("entry(" + i + ", 0)", x.entry(i, 0), Edge.NONE);
            }
            for (int what : new int[] {-1, -5, 3, 4, Integer.MIN_VALUE, Integer.MAX_VALUE}) {
                Due.is("entry(0, " + what + ")", x.entry(0, what), Edge.NONE);
                Due.is("entry(2, " + what + ")", x.entry(2, what), Edge.NONE);
            }
        });
    }

    private static void entriesOfFighters() {
        Edge.says("Journal", "Each of the following makes an entry, with a kind, a fighter and a number: 0 it was added, with "
            + "its greatest life", () -> {
                EncounterLedger x = new EncounterLedger();
                x.add(0, 0, 1, 9, 9);
                x.add(0, 1, 99, 9, 9);
                x.wall(5);
                x.amount(0, 0, 1);
                Edge.entries(x, 0, 0, 0, 1, 0, 1, 99);
            });
        Edge.says("Journal", "1 it was harmed, with what its life lost, if that is more than 0", () -> {
            EncounterLedger x = Edge.fighting("s0:h0", "s0:h1", "s0:h99");
            int before = x.entry(-1, 0);
            Edge.castOn(x, 0, 1);
            Edge.entries(x, before, 10, 0, 10);
            Due.nextTurnOf(x, 0);
            before = x.entry(-1, 0);
            Edge.castOn(x, 1, 1);
            Edge.entries(x, before, 10, 0, 11, 1, 1, 1);
            Due.nextTurnOf(x, 0);
            before = x.entry(-1, 0);
            Edge.castOn(x, 2, 1);
            Edge.entries(x, before, 10, 0, 12, 1, 1, 49);
        });
        Edge.says("Journal", "2 it was mended, with what its life gained, if that is more than 0", () -> {
            EncounterLedger x = Edge.fighting("s0:h2", "s0:m1", "s0:m9");
            Edge.castOn(x, 0, 1);
            x.endTurn();
            int before = x.entry(-1, 0);
            Edge.castOn(x, 1, 1);
            Edge.entries(x, before, 10, 1, 11, 2, 1, 1);
            Due.nextTurnOf(x, 1);
            before = x.entry(-1, 0);
            Edge.castOn(x, 2, 1);
            Edge.entries(x, before, 10, 1, 12, 2, 1, 1);
            Due.nextTurnOf(x, 1);
            before = x.entry(-1, 0);
            Edge.castOn(x, 2, 1);
            Edge.entries(x, before, 10, 1, 12);
        });
        Edge.says("Journal", "3 a condition was made for it, or made again, with its kind", () -> {
            EncounterLedger x = Edge.fighting("s0:k0139,k5139", "s0:k5139,k1139");
            int before = x.entry(-1, 0);
            Edge.castOn(x, 0, 1);
            Edge.entries(x, before, 10, 0, 10, 3, 1, 0, 3, 1, 5);
            x.finish();
            x.begin(Edge.HERO_FIRST);
            before = x.entry(-1, 0);
            Edge.castOn(x, 1, 1);
            Edge.entries(x, before, 10, 0, 11, 3, 1, 5, 3, 1, 1);
        });
        Edge.says("Journal", "4 a condition of it ended, with its kind", () -> {
            EncounterLedger x = Edge.fighting("s0:k4101");
            Edge.castOn(x, 0, 1);
            x.endTurn();
            int before = x.entry(-1, 0);
            x.endTurn();
            Edge.entries(x, before, 9, 1, 1, 4, 1, 4, 8, 0, 2);
        });
        Edge.says("Journal", "5 it spent, with 10 * resource + amount", () -> {
            for (int resource = 0; resource < 3; resource++) {
                for (int amount = 1; amount <= 9; amount += 4) {
                    EncounterLedger x = Edge.paired("s0:h0$" + resource + amount);
                    x.amount(0, resource, 9);
                    x.begin(Edge.HERO_FIRST);
                    int before = x.entry(-1, 0);
                    Edge.castOn(x, 0, 1);
                    Edge.entries(x, before, 10, 0, 10, 5, 0, 10 * resource + amount);
                }
            }
        });
        Edge.says("Journal", "6 it regained, with 10 * resource + amount, if that is more than 0", () -> {
            for (int resource = 0; resource < 3; resource++) {
                EncounterLedger x = Edge.paired("s0:h0$" + resource + "9");
                x.amount(0, resource, 9);
                x.begin(Edge.HERO_FIRST);
                Edge.castOn(x, 0, 1);
                x.finish();
                int before = x.entry(-1, 0);
                x.rest(1);
                Edge.entries(x, before, 6, 0, 10 * resource + 9);
                x.rest(1);
                Due.is("none for a full one", x.entry(-1, 0), before + 1);
            }
        });
    }

    private static void entriesOfTurns() {
        Edge.says("Journal", "7 it moved, with its cell", () -> {
            EncounterLedger x = new EncounterLedger();
            x.add(0, 1, 1, 9, 9);
            x.begin(1);
            x.move(0);
            x.move(2);
            Edge.entries(x, 2, 7, 0, 0, 7, 0, 2);
        });
        Edge.says("Journal", "8 its turn began, with the round", () -> {
            EncounterLedger x = Edge.fighting();
            Edge.entries(x, 2, 8, 0, 1);
            x.delay(1);
            Edge.entries(x, 3, 8, 1, 1);
        });
        Edge.says("Journal", "9 its turn ended, with the round", () -> {
            EncounterLedger x = Edge.fighting();
            x.endTurn();
            x.endTurn();
            x.endTurn();
            Edge.entries(x, 3, 9, 0, 1, 8, 1, 1, 9, 1, 1, 8, 0, 2, 9, 0, 2, 8, 1, 2);
        });
        Edge.says("Journal", "10 it struck or cast, with the fighter that was struck or 10 plus the power.", () -> {
            EncounterLedger x = Edge.fighting("s0:h0", "s0:h0", "s0:h0", "s0:h0");
            for (int power = 0; power < 4; power++) {
                int before = x.entry(-1, 0);
                x.cast(power, 0, 0);
                Edge.entries(x, before, 10, 0, 10 + power);
                Due.nextTurnOf(x, 0);
            }
            int before = x.entry(-1, 0);
            x.strike(1);
            Edge.entries(x, before, 10, 0, 1, 1, 1, 5);
            x.endTurn();
            before = x.entry(-1, 0);
            x.strike(0);
            Edge.entries(x, before, 10, 1, 0, 1, 0, 5);
        });
    }

    private static void orderOfEntries() {
        Edge.says("Journal", "8, 9 and 10 ahead of all that happens by them", () -> {
            EncounterLedger x = Edge.fighting("s5:k3111,k3111", "s5:k4101,k2102,k0139");
            x.cast(0, 44, 0);
            x.endTurn();
            int before = x.entry(-1, 0);
            x.cast(1, 44, 0);
            Edge.entries(x, before, 10, 1, 11, 3, 0, 4, 3, 1, 2, 3, 0, 0);
            before = x.entry(-1, 0);
            x.endTurn();
            Edge.entries(x, before, 9, 1, 1, 8, 0, 2, 4, 0, 3, 1, 0, 1);
            before = x.entry(-1, 0);
            x.endTurn();
            Edge.entries(x, before, 9, 0, 2, 4, 0, 4, 8, 1, 2);
        });
        Edge.says("Journal", "the entry of harm before those of the conditions that end by it", () -> {
            EncounterLedger x = Edge.fighting("s0:k4129,k0139", "s0:h50");
            Edge.castOn(x, 0, 1);
            int before = x.entry(-1, 0);
            x.endTurn();
            Edge.entries(x, before, 9, 0, 1, 8, 1, 1, 1, 1, 1, 4, 1, 4);
            x.endTurn();
            before = x.entry(-1, 0);
            Edge.castOn(x, 1, 1);
            Edge.entries(x, before, 10, 0, 11, 1, 1, 49, 4, 1, 0);
        });
        Edge.says("Journal", "for a cast the entry of what is spent behind 10", () -> {
            EncounterLedger x = Edge.fighting("s0:h1$21");
            int before = x.entry(-1, 0);
            Edge.castOn(x, 0, 1);
            Edge.entries(x, before, 10, 0, 10, 5, 0, 21, 1, 1, 1);
        });
        Edge.says("Journal", "for a rest fighter by fighter first its mending, then its resources in ascending order, and the "
            + "conditions that end behind all of these.", () -> {
                EncounterLedger x = Edge.fighting("s5:h1$01", "s5:h1$12", "s5:k4139,k2139$21");
                for (int power = 2; power >= 0; power--) {
                    x.cast(power, 44, 0);
                    x.endTurn();
                    x.cast(power, 44, 0);
                    x.endTurn();
                }
                x.finish();
                int before = x.entry(-1, 0);
                Due.is("gained", x.rest(1), 2 + 2);
                Edge.entries(x, before, 2, 0, 2, 6, 0, 1, 6, 0, 12, 6, 0, 21, 2, 1, 2, 6, 1, 1, 6, 1, 12, 6, 1, 21,
                    4, 1, 4, 4, 0, 2, 4, 0, 4, 4, 1, 2);
            });
        Edge.says("Journal", "Conditions that end together end in their order.", () -> {
            EncounterLedger x = Edge.fighting("s0:k5139,k0129,k4109", "s0:h99");
            Edge.castOn(x, 0, 1);
            x.finish();
            x.begin(Edge.HERO_FIRST);
            int before = x.entry(-1, 0);
            Edge.castOn(x, 1, 1);
            Edge.entries(x, before, 10, 0, 11, 1, 1, 50, 4, 1, 5, 4, 1, 0);
        });
    }

    /** A ledger with so many entries, from 3 on; it is the turn of its only fighter. */
    private static EncounterLedger withEntries(int number) {
        EncounterLedger x = new EncounterLedger();
        x.add(0, 44, 20, 9, 4);
        x.begin(1);
        if (number % 2 == 1) {
            x.move(45);
        }
        for (int entries = 2 + number % 2; entries < number; entries += 2) {
            x.endTurn();
        }
        return x;
    }

    private static void theFirst300() {
        Edge.says("Journal", "The first 300 entries are kept.", () -> {
            for (int number = 298; number <= 303; number++) {
                EncounterLedger x = withEntries(number);
                Due.is("all", x.entry(-1, 0), number);
                for (int i = 296; i <= 304; i++) {
                    Due.holds("entry " + i + " of " + number, x.entry(i, 0) == Edge.NONE == (i >= Math.min(300, number)));
                }
                Due.is("the first one", x.entry(0, 2), 20);
            }
        });
        Edge.says("Journal", "The first 300", () -> {
            EncounterLedger x = withEntries(299);
            x.move(46);
            Due.is("the last kept", x.entry(299, 2), 46);
            Due.is("one more is not kept", x.move(45), 2);
            Due.is("the last kept still", x.entry(299, 2), 46);
            x.back();
            x.back();
            Due.is("undone", x.entry(299, 2), Edge.NONE);
            x.endTurn();
            Due.is("another last one", x.entry(299, 0), 9);
            Due.is("the next one is not kept", x.entry(300, 0), Edge.NONE);
            Due.is("all", x.entry(-1, 0), 301);
        });
    }

    private static void told(String words, int what, int ofHero, int ofFoe) {
        Edge.says("21", words, () -> {
            EncounterLedger x = Edge.fighting("s5:h4,k4139$02", "s5:m3,k2139$13");
            int[] first = {50, 0, 0, -5, what == 4 ? 1 : 0, 0};
            Due.is("at first", x.replayed(0, what), first[what]);
            Due.is("at first", x.replayed(1, what), what == 4 ? 0 : first[what]);
            x.move(34);
            x.move(35);
            x.cast(0, 44, 0);
            x.endTurn();
            x.cast(1, 44, 0);
            x.endTurn();
            x.cast(0, 0, 0);
            Due.nextTurnOf(x, 0);
            x.strike(1);
            x.finish();
            x.rest(0);
            Due.is("of the hero", x.replayed(0, what), ofHero);
            Due.is("of the foe", x.replayed(1, what), ofFoe);
        });
    }

    private static void replayed() {
        told("0 its life", 0, 50, 50);
        told("1 the number of its harms", 1, 0, 2);
        told("2 the sum of what it spent of all resources, less what it regained", 2, 0, 3);
        told("3 its cell by its latest move, -5 without one", 3, 35, -5);
        told("4 the turns that it began", 4, 3, 2);
        told("5 the conditions made for it", 5, 0, 2);
        Edge.says("21", "Returns what the journal tells of a fighter.", () -> {
            EncounterLedger x = Edge.fighting("s0:h4$02", "s0:h1,k4139$12", "s0:k4139$21");
            for (int power = 0; power < 3; power++) {
                Edge.castOn(x, power, 1);
                Due.nextTurnOf(x, 0);
            }
            Due.is("life", x.replayed(1, 0), 45);
            Due.is("harms", x.replayed(1, 1), 2);
            Due.is("spent of all resources", x.replayed(0, 2), 2 + 2 + 1);
            Due.is("conditions, made again too", x.replayed(1, 5), 2);
            x.finish();
            x.rest(0);
            Due.is("less what it regained", x.replayed(0, 2), 2 + 1);
            Due.is("life behind a rest", x.replayed(1, 0), 50);
            x.rest(1);
            Due.is("less all", x.replayed(0, 2), 0);
        });
        Edge.says("21", "3 its cell by its latest move", () -> {
            EncounterLedger x = new EncounterLedger();
            x.add(0, 1, 1, 9, 9);
            x.begin(1);
            Due.is("where it was added is no move", x.replayed(0, 3), -5);
            x.move(0);
            Due.is("the first cell", x.replayed(0, 3), 0);
            x.move(5);
            Due.is("the latest one", x.replayed(0, 3), 5);
            x.back();
            Due.is("the latest one that is not undone", x.replayed(0, 3), 0);
            x.back();
            Due.is("none", x.replayed(0, 3), -5);
        });
        Edge.says("21", "0 its life", () -> {
            EncounterLedger x = Edge.fighting("s0:h99");
            Edge.castOn(x, 0, 1);
            Due.is("a life of 0", x.replayed(1, 0), 0);
        });
    }

    private static void errorsOfReplayed() {
        Edge.says("21", "`fighter`: the fighter", () -> {
            for (int fighter : Edge.outside(0, 1)) {
                Edge.error("replayed(" + fighter + ", 0)", Edge::pair, x -> x.replayed(fighter, 0), Edge.NONE);
            }
            Edge.error("without fighters", x -> { }, x -> x.replayed(0, 0), Edge.NONE);
        });
        Edge.says("21", "Returns the number", () -> {
            EncounterLedger x = Edge.paired();
            int[] due = {50, 0, 0, -5, 0, 0};
            for (int what = 0; what < due.length; what++) {
                Due.is("replayed(1, " + what + ")", x.replayed(1, what), due[what]);
            }
        });
        Edge.says("21", "NONE if there is no such fighter or what is invalid", () -> {
            for (int what : Edge.outside(0, 5)) {
                Edge.error("replayed(0, " + what + ")", Edge::pair, x -> x.replayed(0, what), Edge.NONE);
            }
            EncounterLedger x = withEntries(301);
            Due.is("NONE is ahead of STATE", x.replayed(1, 0), Edge.NONE);
            Due.is("NONE is ahead of STATE", x.replayed(0, 6), Edge.NONE);
            Due.is("no reason by it", x.reason(), -5);
        });
        Edge.says("21", "STATE with the reason 10 if not all entries are kept.", () -> {
            EncounterLedger x = withEntries(299);
            Due.is("with 299", x.replayed(0, 4), 149);
            x.move(44);
            Due.is("with 300", x.replayed(0, 3), 44);
            x.move(45);
            for (int what = 0; what < 6; what++) {
                Due.refused("replayed(0, " + what + ") with 301", x, x.replayed(0, what), 10);
            }
            x.back();
            Due.is("with 300 again", x.replayed(0, 3), 44);
        });
    }

    private static void reasons() {
        Edge.says("22", "Returns the latest reason.", () -> {
            EncounterLedger x = Edge.paired();
            x.finish();
            Due.is("the first", x.reason(), 1);
            x.add(0, 44, 5, 0, 1);
            Due.is("the next", x.reason(), 5);
            x.begin(1);
            Due.is("a success keeps it", x.reason(), 5);
            x.move(100);
            Due.is("NONE keeps it", x.reason(), 5);
            x.add(0, 0, 0, 0, 1);
            Due.is("BAD keeps it", x.reason(), 5);
            x.turn(40);
            Due.is("-5 keeps it", x.reason(), 5);
            Due.is("asked twice", x.reason(), 5);
        });
        Edge.says("22", "Returns the reason, -5 if there was none.", () -> {
            EncounterLedger x = new EncounterLedger();
            Due.is("none", x.reason(), -5);
            x.add(0, 0, 0, 0, 1);
            x.power(0);
            x.wall(100);
            Due.is("none by other errors", x.reason(), -5);
        });
        Edge.says("Reasons", "A call that returns STATE keeps a reason: 1 there is no encounter", () -> {
            Edge.state("finish", Edge::pair, EncounterLedger::finish, 1);
            Edge.state("endTurn", Edge::pair, EncounterLedger::endTurn, 1);
            Edge.state("delay", Edge::pair, x -> x.delay(1), 1);
            Edge.state("move", Edge::pair, x -> x.move(0), 1);
            Edge.state("strike", Edge::pair, x -> x.strike(1), 1);
            Edge.state("cast", Edge::pair, x -> x.cast(0, 0, 0), 1);
            Edge.state("way", Edge::pair, x -> x.way(0), 1);
        });
        Edge.says("Reasons", "2 there is one", () -> {
            Edge.state("amount", Edge::fight, x -> x.amount(0, 0, 1), 2);
            Edge.state("begin", Edge::fight, x -> x.begin(0), 2);
            Edge.state("rest", Edge::fight, x -> x.rest(0), 2);
        });
        Edge.says("Reasons", "5 the cell is a wall, or a fighter is there", () -> {
            Edge.state("add on a fighter", Edge::pair, x -> x.add(0, 44, 5, 0, 1), 5);
            Edge.state("add on a wall", x -> x.wall(44), x -> x.add(0, 44, 5, 0, 1), 5);
            Edge.state("wall", Edge::pair, x -> x.wall(44), 5);
            Edge.state("move to a fighter", Edge::fight, x -> x.move(45), 5);
            Edge.state("move to a wall", x -> {
                Edge.fight(x);
                x.wall(34);
            }, x -> x.move(34), 5);
        });
        Edge.says("Reasons", "10 there are no fighters, or nothing to undo or restore", () -> {
            Edge.state("begin", x -> { }, x -> x.begin(0), 10);
            Edge.state("rest", x -> { }, x -> x.rest(0), 10);
            Edge.state("back", x -> { }, EncounterLedger::back, 10);
            Edge.state("undo", Edge::pair, EncounterLedger::undo, 10);
        });
    }

    private static void stunned(EncounterLedger x) {
        Due.read(x, 0, "s0:k1139");
        Edge.fight(x);
        x.cast(0, 45, 0);
        x.endTurn();
    }

    private static void struck(EncounterLedger x) {
        Due.read(x, 0, "s0:h1");
        Edge.fight(x);
        x.strike(1);
    }

    private static void reasonsOfActing() {
        Edge.says("Reasons", "3 the fighter cannot act", () -> {
            Edge.state("delay", EdgesOfJournal::stunned, x -> x.delay(0), 3);
            Edge.state("move", EdgesOfJournal::stunned, x -> x.move(35), 3);
            Edge.state("strike", EdgesOfJournal::stunned, x -> x.strike(0), 3);
            Edge.state("cast", EdgesOfJournal::stunned, x -> x.cast(0, 44, 0), 3);
        });
        Edge.says("Reasons", "4 it has acted in this turn", () -> {
            Edge.state("delay", EdgesOfJournal::struck, x -> x.delay(1), 4);
            Edge.state("strike", EdgesOfJournal::struck, x -> x.strike(1), 4);
            Edge.state("cast", EdgesOfJournal::struck, x -> x.cast(0, 45, 0), 4);
        });
        Edge.says("Reasons", "6 there is no way, or it is too long", () -> {
            Edge.state("too long by one", Edge::fight, x -> x.move(84 + 1), 6);
            Edge.state("no way", x -> {
                Edge.fight(x);
                x.wall(34);
                x.wall(43);
                x.wall(54);
            }, x -> x.move(33), 6);
        });
        Edge.says("Reasons", "7 no fighter that could be struck is there",
            () -> Edge.state("strike of itself", Edge::fight, x -> x.strike(0), 7));
        Edge.says("Reasons", "8 the power is missing",
            () -> Edge.state("cast", Edge::fight, x -> x.cast(3, 45, 0), 8));
        Edge.says("Reasons", "9 there is too little of a resource", () -> Edge.state("cast", x -> {
            Due.read(x, 0, "s0:h1$03");
            Edge.fight(x);
        }, x -> x.cast(0, 45, 0), 9));
        Edge.says("Reasons", "11 the other fighter does not come later in this round.",
            () -> Edge.state("delay", Edge::fight, x -> x.delay(0), 11));
    }

    private static void theFirstReason() {
        Edge.says("Reasons", "Of several, the first one that is listed in the call counts.", () -> {
            Edge.state("delay: 1 ahead of 11", Edge::pair, x -> x.delay(0), 1);
            Edge.state("delay: 3 ahead of 11", EdgesOfJournal::stunned, x -> x.delay(1), 3);
            Edge.state("delay: 4 ahead of 11", EdgesOfJournal::struck, x -> x.delay(0), 4);
            Edge.state("move: 1 ahead of 5", Edge::pair, x -> x.move(44), 1);
            Edge.state("move: 3 ahead of 5", EdgesOfJournal::stunned, x -> x.move(44), 3);
            Edge.state("move: 3 ahead of 6", EdgesOfJournal::stunned, x -> x.move(0), 3);
            Edge.state("move: 5 ahead of 6", x -> {
                Edge.fight(x);
                x.add(0, 0, 5, 0, 1);
            }, x -> x.move(0), 5);
            Edge.state("strike: 1 ahead of 7", Edge::pair, x -> x.strike(0), 1);
            Edge.state("strike: 3 ahead of 7", EdgesOfJournal::stunned, x -> x.strike(1), 3);
            Edge.state("strike: 4 ahead of 7", EdgesOfJournal::struck, x -> x.strike(0), 4);
            Edge.state("cast: 1 ahead of 8", Edge::pair, x -> x.cast(3, 0, 0), 1);
            Edge.state("cast: 3 ahead of 8", EdgesOfJournal::stunned, x -> x.cast(3, 0, 0), 3);
            Edge.state("cast: 4 ahead of 8", EdgesOfJournal::struck, x -> x.cast(3, 0, 0), 4);
        });
    }

    private static void account(String words, EncounterLedger x, int what, int due) {
        Edge.says("23", words, () -> {
            Due.is("account(" + what + ") of a new one", new EncounterLedger().account(what), 0);
            Due.is("account(" + what + ")", x.account(what), due);
        });
    }

    private static void accounts() {
        EncounterLedger x = Edge.fighting("s5:h60,k4139", "s5:h3");
        x.add(1, 46, 50, -5, 4);
        x.add(0, 43, 7, -5, 4);
        x.wall(0);
        x.wall(1);
        x.wall(1);
        x.wall(99);
        account("0 the fighters", x, 0, 4);
        x.cast(0, 44, 0);
        account("1 those that are down", x, 1, 2);
        account("2 the sum of all lives of side 0, 3 of side 1", x, 2, 57);
        account("3 of side 1", x, 3, 0);
        account("4 the sum of all harm", x, 4, 100);
        account("9 the walls", x, 9, 2);
        x.finish();
        x.rest(0);
        account("5 of all that was mended, rests included", x, 5, 0);
        x.rest(1);
        account("5 of all that was mended", x, 5, 100);
        account("10 the rests", x, 10, 2);
        Edge.says("23", "Returns the account", () -> {
            x.begin(Due.seed(20, 1, 1, 16));
            x.cast(1, 44, 0);
            int[] due = {4, 0, 57, 94, 106, 100, 2, 2, 2, 2, 2};
            for (int what = 0; what < due.length; what++) {
                Due.is("account(" + what + ")", x.account(what), due[what]);
            }
        });
        Edge.says("23", "5 of all that was mended, rests included", () -> {
            EncounterLedger y = Edge.fighting("s0:h9", "s0:m4");
            Edge.castOn(y, 0, 1);
            y.endTurn();
            Edge.castOn(y, 1, 1);
            Due.is("by a power", y.account(5), 4);
            y.finish();
            y.rest(0);
            Due.is("by a power and a rest", y.account(5), 9);
        });
    }

    private static void accountsOfTurns() {
        Edge.says("23", "Returns an account.", () -> {
            EncounterLedger x = Edge.fighting();
            int[] due = {2, 0, 50, 50, 0, 0, 1, 1, 0, 0, 0};
            for (int what = 0; what < due.length; what++) {
                Due.is("account(" + what + ")", x.account(what), due[what]);
            }
        });
        Edge.says("23", "1 those that are down", () -> {
            EncounterLedger x = new EncounterLedger();
            Due.read(x, 0, "s5:h99");
            for (int i = 0; i < 8; i++) {
                x.add(i % 2, 40 + i, 5, 0, 1);
            }
            int first = x.begin(1);
            x.cast(0, 44, 0);
            Due.is("all of one side", x.account(1), 4);
            Due.is("lives of one side", x.account(2 + first % 2), 20);
            Due.is("lives of the other side", x.account(3 - first % 2), 0);
            EncounterLedger y = Edge.fighting("s0:h99");
            y.endTurn();
            Edge.castOn(y, 0, 0);
            Due.is("the first fighter", y.account(1), 1);
        });
        Edge.says("23", "6 the encounters that were begun", () -> {
            EncounterLedger x = Edge.paired();
            for (int i = 1; i <= 3; i++) {
                x.begin(i);
                x.begin(i);
                Due.is("encounters", x.account(6), i);
                x.finish();
                Due.is("encounters", x.account(6), i);
            }
        });
        Edge.says("23", "7 the turns that were begun", () -> {
            EncounterLedger x = Edge.paired();
            x.begin(Edge.HERO_FIRST);
            Due.is("the first", x.account(7), 1);
            x.endTurn();
            Due.is("the second", x.account(7), 2);
            x.finish();
            x.begin(Edge.HERO_FIRST);
            Due.is("of another encounter", x.account(7), 3);
            x.delay(1);
            Due.is("by a delay", x.account(7), 4);
        });
        Edge.says("23", "8 the strikes and powers", () -> {
            EncounterLedger x = Edge.fighting("s0:h1");
            x.strike(1);
            Due.is("a strike", x.account(8), 1);
            x.strike(1);
            x.move(34);
            Due.is("no refused one, no move", x.account(8), 1);
            x.endTurn();
            x.cast(0, 0, 0);
            Due.is("and a power", x.account(8), 2);
        });
        Edge.says("23", "NONE if what is invalid.", () -> {
            for (int what : Edge.outside(0, 10)) {
                Edge.error("account(" + what + ")", Edge::fight, x -> x.account(what), Edge.NONE);
            }
        });
    }
}

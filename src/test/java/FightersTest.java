/** Promises 1, 2, 4 and 15: a new object, add, amount, fighter. */
public final class FightersTest {
    public static void main(String[] args) {
        newObjectIsEmpty();
        addedFighterHasItsNumbers();
        wrongNumbersAreRefused();
        takenCellsAreRefused();
        theNinthIsRefused();
        amountsAreSet();
        amountRefusals();
        invalidSelectors();
        Due.end("FightersTest");
    }

    private static void newObjectIsEmpty() {
        EncounterLedger x = new EncounterLedger();
        for (int what = 0; what <= 10; what++) {
            Due.is("account(" + what + ") of a new one", x.account(what), 0);
        }
        for (int what = 0; what <= 2; what++) {
            Due.is("count(" + what + ") of a new one", x.count(what), 0);
        }
        Due.is("fighter(0, 0)", x.fighter(0, 0), -100);
        Due.is("turn(0)", x.turn(0), 0);
        Due.is("condition(-1, 0)", x.condition(-1, 0), 0);
        Due.is("entry(-1, 0)", x.entry(-1, 0), 0);
        Due.is("reason()", x.reason(), -5);
        for (int cell = 0; cell < 100; cell++) {
            Due.is("no wall at first", x.wall(cell), 1);
        }
    }

    private static void addedFighterHasItsNumbers() {
        EncounterLedger x = new EncounterLedger();
        Due.is("add", x.add(1, 37, 42, -5, 9), 0);
        Due.is("add", x.add(0, 99, 1, 9, 1), 1);
        Due.is("add", x.add(0, 0, 99, 0, 5), 2);
        int[] due = {1, 37, 42, 42, -5, 9, 1, -5, -5, 0};
        for (int what = 0; what < due.length; what++) {
            Due.is("fighter(0, " + what + ")", x.fighter(0, what), due[what]);
        }
        int[] amounts = {2, 3, 1};
        for (int resource = 0; resource < 3; resource++) {
            Due.is("amount " + resource, x.fighter(0, 10 + resource), amounts[resource]);
            Due.is("greatest amount " + resource, x.fighter(0, 20 + resource), amounts[resource]);
        }
        for (int kind = 0; kind < 6; kind++) {
            Due.is("values of kind " + kind, x.fighter(0, 30 + kind), 0);
        }
        Due.is("fighter(1, 1)", x.fighter(1, 1), 99);
        Due.is("fighter(1, 4)", x.fighter(1, 4), 9);
        Due.is("fighter(2, 2)", x.fighter(2, 2), 99);
        Due.is("entries", x.entry(-1, 0), 3);
        Due.is("entry(0, 2)", x.entry(0, 2), 42);
    }

    private static void wrongNumbersAreRefused() {
        EncounterLedger x = new EncounterLedger();
        int none = EncounterLedger.NONE;
        int bad = EncounterLedger.BAD;
        Due.is("side -1", x.add(-1, 5, 5, 0, 1), none);
        Due.is("side 2", x.add(2, 5, 5, 0, 1), none);
        Due.is("cell -1", x.add(0, -1, 5, 0, 1), none);
        Due.is("cell 100", x.add(0, 100, 5, 0, 1), none);
        Due.is("NONE is ahead of BAD", x.add(0, 100, 0, 0, 1), none);
        Due.is("life 0", x.add(0, 5, 0, 0, 1), bad);
        Due.is("life 100", x.add(0, 5, 100, 0, 1), bad);
        Due.is("bonus -6", x.add(0, 5, 5, -6, 1), bad);
        Due.is("bonus 10", x.add(0, 5, 5, 10, 1), bad);
        Due.is("speed 0", x.add(0, 5, 5, 0, 0), bad);
        Due.is("speed 10", x.add(0, 5, 5, 0, 10), bad);
        Due.is("no fighter yet", x.account(0), 0);
        Due.is("no change yet", x.count(1), 0);
        x.wall(5);
        Due.is("BAD is ahead of STATE", x.add(0, 5, 5, 0, 10), bad);
        Due.is("no reason by BAD", x.reason(), -5);
    }

    private static void takenCellsAreRefused() {
        EncounterLedger x = new EncounterLedger();
        x.wall(7);
        Due.refused("add on a wall", x, x.add(0, 7, 5, 0, 1), 5);
        x.add(0, 8, 5, 0, 1);
        Due.refused("add on a fighter", x, x.add(1, 8, 5, 0, 1), 5);
        x.wall(7);
        Due.is("add where a wall was", x.add(1, 7, 5, 0, 1), 1);
    }

    private static void theNinthIsRefused() {
        EncounterLedger x = new EncounterLedger();
        for (int i = 0; i < 8; i++) {
            Due.is("add", x.add(i % 2, i, 5, 0, 1), i);
        }
        Due.refused("STATE is ahead of FULL", x, x.add(0, 0, 5, 0, 1), 5);
        Due.is("the ninth", x.add(0, 50, 5, 0, 1), EncounterLedger.FULL);
        Due.is("fighters", x.account(0), 8);
        Due.is("fighter(7, 1)", x.fighter(7, 1), 7);
        Due.is("fighter(8, 1)", x.fighter(8, 1), -100);
    }

    private static void amountsAreSet() {
        EncounterLedger x = new EncounterLedger();
        x.add(0, 0, 5, 0, 1);
        x.add(0, 1, 5, 0, 1);
        Due.is("amount before", x.amount(0, 1, 9), 3);
        Due.is("amount", x.fighter(0, 11), 9);
        Due.is("greatest amount", x.fighter(0, 21), 9);
        Due.is("amount before", x.amount(0, 1, 0), 9);
        Due.is("amount", x.fighter(0, 11), 0);
        Due.is("another resource", x.fighter(0, 10), 2);
        Due.is("another fighter", x.fighter(1, 11), 3);
        Due.is("it makes no entry", x.entry(-1, 0), 2);
    }

    private static void amountRefusals() {
        EncounterLedger x = new EncounterLedger();
        Due.is("no fighter", x.amount(0, 0, 1), EncounterLedger.NONE);
        x.add(0, 0, 5, 0, 1);
        Due.is("no fighter", x.amount(1, 0, 1), EncounterLedger.NONE);
        Due.is("no fighter", x.amount(-1, 0, 1), EncounterLedger.NONE);
        Due.is("no resource", x.amount(0, -1, 1), EncounterLedger.NONE);
        Due.is("no resource", x.amount(0, 3, 11), EncounterLedger.NONE);
        x.begin(1);
        Due.is("BAD is ahead of STATE", x.amount(0, 0, 10), EncounterLedger.BAD);
        Due.is("BAD is ahead of STATE", x.amount(0, 0, -1), EncounterLedger.BAD);
        Due.refused("amount in an encounter", x, x.amount(0, 0, 1), 2);
        Due.is("unchanged", x.fighter(0, 20), 2);
    }

    private static void invalidSelectors() {
        EncounterLedger x = new EncounterLedger();
        x.add(0, 0, 5, 0, 1);
        int[] invalid = {-1, 13, 19, 23, 29, 36, 100, Integer.MAX_VALUE, Integer.MIN_VALUE};
        for (int what : invalid) {
            Due.is("fighter(0, " + what + ")", x.fighter(0, what), -100);
        }
        Due.is("fighter(-1, 0)", x.fighter(-1, 0), -100);
        Due.is("fighter(1, 0)", x.fighter(1, 0), -100);
    }
}

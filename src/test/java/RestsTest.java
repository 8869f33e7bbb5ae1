/** Promise 14: rest, short and long. */
public final class RestsTest {
    private static final int FIRST = Due.seed(20, 1, 1);

    public static void main(String[] args) {
        refusals();
        shortRest();
        longRest();
        entriesOfALongRest();
        nothingToGain();
        Due.end("RestsTest");
    }

    private static void refusals() {
        EncounterLedger x = new EncounterLedger();
        Due.is("rest(-1)", x.rest(-1), EncounterLedger.NONE);
        Due.is("rest(2)", x.rest(2), EncounterLedger.NONE);
        Due.refused("no fighters", x, x.rest(0), 10);
        x.add(0, 0, 9, 0, 1);
        x.begin(1);
        Due.is("NONE is ahead of STATE", x.rest(2), EncounterLedger.NONE);
        Due.refused("in an encounter", x, x.rest(1), 2);
        Due.is("rests", x.account(10), 0);
    }

    /** The hero has harmed 1 by 9 of 15 and downed 2, and spent 2 of resource 0 and 1 of resource 2. */
    private static EncounterLedger battered() {
        EncounterLedger x = new EncounterLedger();
        Due.read(x, 0, "s0:h9$02");
        Due.read(x, 1, "s0:h99,k4139$21");
        Due.read(x, 2, "s0:k4139");
        x.add(0, 0, 50, 9, 9);
        x.add(1, 9, 15, -5, 9);
        x.add(1, 5, 7, -5, 9);
        x.begin(FIRST);
        x.cast(0, 9, 0);
        Due.nextTurnOf(x, 0);
        x.cast(1, 5, 0);
        Due.nextTurnOf(x, 0);
        x.cast(2, 9, 0);
        x.finish();
        return x;
    }

    private static void shortRest() {
        EncounterLedger x = battered();
        Due.is("half of 15, rounded up", x.rest(0), 8);
        Due.is("life", x.fighter(1, 2), 14);
        Due.is("one down stays down", x.fighter(2, 2), 0);
        Due.is("resource 0 is full", x.fighter(0, 10), 2);
        Due.is("resource 2 is not", x.fighter(0, 12), 0);
        Due.is("conditions stay", x.condition(-1, 0), 1);
        Due.is("rests", x.account(10), 1);
        Due.is("mended", x.account(5), 8);
        Due.is("up to the greatest", x.rest(0), 1);
        halfOfAnEvenLife();
        Due.is("rests", x.account(10), 2);
    }

    private static void halfOfAnEvenLife() {
        EncounterLedger x = new EncounterLedger();
        Due.read(x, 0, "s0:h15");
        x.add(0, 0, 50, 9, 9);
        x.add(1, 9, 20, -5, 9);
        x.begin(FIRST);
        x.cast(0, 9, 0);
        x.finish();
        Due.is("half of 20", x.rest(0), 10);
        Due.is("life", x.fighter(1, 2), 15);
    }

    private static void longRest() {
        EncounterLedger x = battered();
        Due.is("all that was lost", x.rest(1), 16);
        Due.is("life", x.fighter(1, 2), 15);
        Due.is("one down is up again", x.fighter(2, 2), 7);
        Due.is("none down", x.account(1), 0);
        Due.is("resource 0", x.fighter(0, 10), 2);
        Due.is("resource 2", x.fighter(0, 12), 1);
        Due.is("conditions end", x.condition(-1, 0), 0);
        Due.is("mended", x.account(5), 16);
        Due.is("spent less regained", x.replayed(0, 2), 0);
    }

    private static void entriesOfALongRest() {
        EncounterLedger x = battered();
        int before = x.entry(-1, 0);
        x.rest(1);
        int[][] due = {{6, 0, 2}, {6, 0, 21}, {2, 1, 9}, {2, 2, 7}, {4, 1, 4}};
        for (int i = 0; i < due.length; i++) {
            for (int what = 0; what < 3; what++) {
                Due.is("entry " + i, x.entry(before + i, what), due[i][what]);
            }
        }
        Due.is("entries", x.entry(-1, 0), before + due.length);
        EncounterLedger y = battered();
        y.rest(0);
        Due.is("a short rest, first resource 0 of the hero", y.entry(before, 2), 2);
        Due.is("then the life of 1", y.entry(before + 1, 2), 8);
        Due.is("entries", y.entry(-1, 0), before + 2);
    }

    private static void nothingToGain() {
        EncounterLedger x = new EncounterLedger();
        x.add(0, 0, 9, 0, 1);
        Due.is("short", x.rest(0), 0);
        Due.is("long", x.rest(1), 0);
        Due.is("no entries", x.entry(-1, 0), 1);
        Due.is("rests", x.account(10), 2);
        Due.is("they are changes", x.count(1), 3);
    }
}

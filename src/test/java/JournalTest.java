/** Promises 20 to 23: entry, replayed, reason, account. */
public final class JournalTest {
    public static void main(String[] args) {
        entrySelectors();
        entriesOfMoves();
        replays();
        replayRefusals();
        theFirst300AreKept();
        reasons();
        downOnesAreCounted();
        accounts();
        Due.end("JournalTest");
    }

    private static void entrySelectors() {
        EncounterLedger x = new EncounterLedger();
        Due.is("none", x.entry(0, 0), EncounterLedger.NONE);
        x.add(1, 30, 12, 0, 1);
        Due.is("how many", x.entry(-1, -7), 1);
        Due.is("kind", x.entry(0, 0), 0);
        Due.is("fighter", x.entry(0, 1), 0);
        Due.is("number", x.entry(0, 2), 12);
        Due.is("what 3", x.entry(0, 3), EncounterLedger.NONE);
        Due.is("what -1", x.entry(0, -1), EncounterLedger.NONE);
        Due.is("i 1", x.entry(1, 0), EncounterLedger.NONE);
        Due.is("i -2", x.entry(-2, 0), EncounterLedger.NONE);
    }

    private static void entriesOfMoves() {
        EncounterLedger x = new EncounterLedger();
        x.add(0, 44, 12, 0, 9);
        x.begin(1);
        x.move(46);
        Due.is("kind", x.entry(2, 0), 7);
        Due.is("cell", x.entry(2, 2), 46);
        Due.is("replayed cell", x.replayed(0, 3), 46);
        x.move(66);
        Due.is("the latest cell", x.replayed(0, 3), 66);
    }

    private static void replays() {
        EncounterLedger x = new EncounterLedger();
        Due.read(x, 0, "s5:h4,k4209$02");
        Due.read(x, 1, "s5:m3$13");
        x.add(0, 44, 20, 9, 4);
        x.add(1, 45, 20, -5, 4);
        int[] fresh = {20, 0, 0, -5, 0, 0};
        for (int what = 0; what < fresh.length; what++) {
            Due.is("replayed(0, " + what + ")", x.replayed(0, what), fresh[what]);
        }
        x.begin(Due.seed(20, 1));
        x.cast(0, 44, 0);
        x.endTurn();
        x.cast(1, 44, 0);
        x.endTurn();
        x.strike(1);
        int[] hero = {20, 0, 2, -5, 2, 0};
        int[] foe = {20 - 4 + 3 - 7, 2, 3, -5, 1, 1};
        for (int what = 0; what < hero.length; what++) {
            Due.is("replayed(0, " + what + ")", x.replayed(0, what), hero[what]);
        }
        for (int what = 0; what < foe.length; what++) {
            Due.is("replayed(1, " + what + ")", x.replayed(1, what), foe[what]);
        }
        Due.is("its life", x.fighter(1, 2), 12);
        x.finish();
        x.rest(0);
        Due.is("resource 0 regained", x.replayed(0, 2), 0);
        Due.is("resource 1 not", x.replayed(1, 2), 3);
        Due.is("mended by the rest", x.replayed(1, 0), 20);
    }

    private static void replayRefusals() {
        EncounterLedger x = new EncounterLedger();
        Due.is("no fighter", x.replayed(0, 0), EncounterLedger.NONE);
        x.add(0, 44, 20, 9, 4);
        Due.is("no fighter", x.replayed(-1, 0), EncounterLedger.NONE);
        Due.is("no fighter", x.replayed(1, 0), EncounterLedger.NONE);
        Due.is("what -1", x.replayed(0, -1), EncounterLedger.NONE);
        Due.is("what 6", x.replayed(0, 6), EncounterLedger.NONE);
    }

    /** One add and one begin make 2 entries, each end of a turn 2 more. */
    private static void theFirst300AreKept() {
        EncounterLedger x = new EncounterLedger();
        x.add(0, 44, 20, 9, 4);
        x.begin(1);
        for (int i = 0; i < 149; i++) {
            x.endTurn();
        }
        Due.is("all kept", x.entry(-1, 0), 300);
        Due.is("replayed", x.replayed(0, 4), 150);
        Due.is("the last entry", x.entry(299, 2), 150);
        x.endTurn();
        Due.is("all entries", x.entry(-1, 0), 302);
        Due.is("the last kept", x.entry(299, 2), 150);
        Due.is("not kept", x.entry(300, 0), EncounterLedger.NONE);
        Due.is("not kept", x.entry(301, 0), EncounterLedger.NONE);
        Due.is("the first is kept", x.entry(0, 2), 20);
        Due.refused("replayed", x, x.replayed(0, 4), 10);
        Due.is("NONE is ahead of STATE", x.replayed(1, 4), EncounterLedger.NONE);
        x.back();
        Due.is("replayed again", x.replayed(0, 4), 150);
    }

    private static void reasons() {
        EncounterLedger x = new EncounterLedger();
        Due.is("none", x.reason(), -5);
        Due.refused("finish", x, x.finish(), 1);
        x.add(0, 44, 20, 9, 4);
        Due.is("a success keeps it", x.reason(), 1);
        x.add(0, 101, 20, 9, 4);
        Due.is("other errors keep it", x.reason(), 1);
        Due.refused("add", x, x.add(0, 44, 20, 9, 4), 5);
        x.image();
        Due.is("back", x.back(), 0);
        Due.is("it is not undone", x.reason(), 5);
        Due.refused("back", x, x.back(), 10);
        x.undo();
        Due.is("it is not restored", x.reason(), 10);
    }

    private static void downOnesAreCounted() {
        EncounterLedger x = new EncounterLedger();
        Due.read(x, 0, "s5:h99");
        x.add(1, 0, 20, -5, 4);
        x.add(0, 44, 20, 9, 4);
        x.add(1, 1, 20, -5, 4);
        x.begin(Due.seed(1, 20, 1));
        x.cast(0, 0, 0);
        Due.is("down", x.account(1), 2);
        Due.is("lives of side 1", x.account(3), 0);
    }

    private static void accounts() {
        EncounterLedger x = new EncounterLedger();
        Due.is("account(-1)", x.account(-1), EncounterLedger.NONE);
        Due.is("account(11)", x.account(11), EncounterLedger.NONE);
        Due.read(x, 0, "s5:h30,m9");
        x.add(0, 44, 20, 9, 4);
        x.add(1, 45, 25, -5, 4);
        x.add(1, 99, 11, -5, 4);
        x.wall(7);
        x.begin(Due.seed(20, 1, 1));
        x.cast(0, 44, 0);
        x.endTurn();
        x.finish();
        x.rest(0);
        x.rest(1);
        x.begin(3);
        int[] due = {3, 0, 20, 36, 36, 36, 2, 3, 1, 1, 2};
        for (int what = 0; what < due.length; what++) {
            Due.is("account(" + what + ")", x.account(what), due[what]);
        }
    }
}

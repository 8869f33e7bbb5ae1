import java.util.Arrays;

/** Promises 24 to 27: back, image, undo, count. */
public final class ChangesTest {
    public static void main(String[] args) {
        sixCanBeUndone();
        failuresAreNoChanges();
        changesBehindBack();
        snapshots();
        laterSnapshots();
        snapshotsKeepWhatTheyDoNotContain();
        counts();
        Due.end("ChangesTest");
    }

    private static void sixCanBeUndone() {
        EncounterLedger x = new EncounterLedger();
        Due.refused("nothing", x, x.back(), 10);
        for (int i = 0; i < 8; i++) {
            x.wall(i);
            Due.is("changes", x.count(1), Math.min(6, i + 1));
        }
        for (int left = 5; left >= 0; left--) {
            Due.is("back", x.back(), left);
            Due.is("walls", x.account(9), left + 2);
            Due.is("changes", x.count(1), left);
        }
        Due.refused("nothing left", x, x.back(), 10);
        Due.is("walls", x.account(9), 2);
    }

    private static void failuresAreNoChanges() {
        EncounterLedger x = new EncounterLedger();
        x.add(0, 44, 20, 9, 4);
        int[] before = Edge.look(x);
        x.add(0, 44, 20, 9, 4);
        x.wall(44);
        x.amount(0, 0, 10);
        x.finish();
        x.endTurn();
        x.delay(0);
        x.move(5);
        x.strike(0);
        x.power(0);
        x.cast(0, 0, 0);
        x.rest(7);
        x.undo();
        Due.is("changes", x.count(1), 1);
        Due.holds("failures leave the state", Arrays.equals(before, Edge.look(x)));
        x.feed(1, 1, 0, 0, 0, 0);
        x.image();
        Due.is("feed and image are no changes", x.count(1), 1);
    }

    private static void changesBehindBack() {
        EncounterLedger x = new EncounterLedger();
        for (int i = 0; i < 9; i++) {
            x.wall(i);
        }
        x.back();
        x.back();
        Due.is("wall(50)", x.wall(50), 1);
        Due.is("changes", x.count(1), 5);
        x.wall(51);
        x.wall(52);
        Due.is("changes", x.count(1), 6);
        for (int left = 5; left >= 0; left--) {
            Due.is("back", x.back(), left);
        }
        Due.is("walls", x.account(9), 4);
        Due.is("the fifth is none", x.wall(4), 1);
        Due.is("the fourth is one", x.wall(3), 0);
    }

    private static void start(EncounterLedger x) {
        x.add(0, 44, 20, 9, 4);
        Due.read(x, 2, "s0:h1");
    }

    private static void goOn(EncounterLedger x) {
        x.add(1, 45, 20, -5, 4);
        x.wall(5);
        x.begin(Edge.HERO_FIRST);
        x.strike(1);
    }

    private static void snapshots() {
        EncounterLedger first = new EncounterLedger();
        start(first);
        EncounterLedger x = new EncounterLedger();
        Due.refused("no snapshot", x, x.undo(), 10);
        start(x);
        Due.is("image", x.image(), 1);
        Due.is("changes stay", x.count(1), 2);
        goOn(x);
        Due.is("undo", x.undo(), 1);
        Edge.alike("as it was", first, x);
        Due.is("changes", x.count(1), 0);
        Due.refused("back", x, x.back(), 10);
        EncounterLedger second = new EncounterLedger();
        start(second);
        goOn(second);
        goOn(x);
        Edge.alike("as it would be", second, x);
        Due.is("undo again", x.undo(), 1);
        Due.is("it stays", x.account(0), 1);
        Due.is("without a wall", x.account(9), 0);
    }

    private static void laterSnapshots() {
        EncounterLedger x = new EncounterLedger();
        start(x);
        x.image();
        x.add(1, 45, 20, -5, 4);
        Due.is("another image", x.image(), 2);
        x.back();
        Due.is("one fighter", x.account(0), 1);
        x.add(0, 46, 3, 0, 1);
        Due.is("back leaves the snapshot", x.undo(), 2);
        Due.is("with its fighter", x.fighter(1, 1), 45);
        Due.is("and its entries", x.entry(1, 2), 20);
    }

    private static void snapshotsKeepWhatTheyDoNotContain() {
        EncounterLedger x = new EncounterLedger();
        x.wall(1);
        Due.feed(x, "s0");
        Due.is("image", x.image(), 0);
        Due.feed(x, ":h1");
        Due.is("undo", x.undo(), 0);
        Due.is("the tape stays", x.count(0), 5);
        x.wall(2);
        x.back();
        Due.is("also behind back", x.count(0), 5);
        Due.is("power", x.power(0), 1);
        Due.is("powers", x.count(2), 1);
        x.undo();
        Due.is("powers are restored", x.count(2), 0);
        Due.is("the tape is empty still", x.count(0), 0);
    }

    private static void counts() {
        EncounterLedger x = new EncounterLedger();
        Due.is("count(-1)", x.count(-1), EncounterLedger.NONE);
        Due.is("count(3)", x.count(3), EncounterLedger.NONE);
        Due.read(x, 0, "s0:h1");
        Due.read(x, 3, "s0:h1");
        Due.is("powers", x.count(2), 9);
        Due.feed(x, "abc");
        Due.is("bytes", x.count(0), 3);
        Due.is("changes", x.count(1), 2);
    }
}

/** Promises 3, 9, 18 and 19: wall, move, area and way. */
public final class GridTest {
    public static void main(String[] args) {
        wallsTurn();
        wallRefusals();
        areasHaveTheirCells();
        areasAtTheEdges();
        areasAgainstTheirWords();
        areaRefusals();
        waysGoAround();
        waysPassFriendsAndTheDown();
        moves();
        moveRefusals();
        stepsAddUp();
        Due.end("GridTest");
    }

    private static void wallsTurn() {
        EncounterLedger x = new EncounterLedger();
        Due.is("wall(0)", x.wall(0), 1);
        Due.is("wall(99)", x.wall(99), 1);
        Due.is("walls", x.account(9), 2);
        Due.is("wall(0) again", x.wall(0), 0);
        Due.is("walls", x.account(9), 1);
        Due.is("wall(0) once more", x.wall(0), 1);
        Due.is("walls make no entries", x.entry(-1, 0), 0);
    }

    private static void wallRefusals() {
        EncounterLedger x = new EncounterLedger();
        Due.is("wall(-1)", x.wall(-1), EncounterLedger.NONE);
        Due.is("wall(100)", x.wall(100), EncounterLedger.NONE);
        x.add(0, 50, 5, 0, 1);
        Due.refused("wall below a fighter", x, x.wall(50), 5);
        Due.is("walls", x.account(9), 0);
        x.begin(1);
        Due.is("a wall in an encounter", x.wall(51), 1);
    }

    private static void cells(int shape, int cell, int direction, int size, int... due) {
        EncounterLedger x = new EncounterLedger();
        String call = "area(" + shape + ", " + cell + ", " + direction + ", " + size + ", ";
        Due.is(call + "-1)", x.area(shape, cell, direction, size, -1), due.length);
        for (int i = 0; i < due.length; i++) {
            Due.is(call + i + ")", x.area(shape, cell, direction, size, i), due[i]);
        }
        Due.is(call + "behind the last)", x.area(shape, cell, direction, size, due.length), -5);
        Due.is(call + "far behind)", x.area(shape, cell, direction, size, Integer.MAX_VALUE), -5);
    }

    private static void areasHaveTheirCells() {
        cells(0, 55, 0, 0, 55);
        cells(0, 55, 3, 1, 44, 45, 46, 54, 55, 56, 64, 65, 66);
        cells(1, 55, 0, 0, 55);
        cells(1, 55, 1, 1, 45, 54, 55, 56, 65);
        cells(1, 55, 2, 2, 35, 44, 45, 46, 53, 54, 55, 56, 57, 64, 65, 66, 75);
        cells(2, 55, 0, 0);
        cells(2, 55, 0, 1, 56);
        cells(2, 55, 0, 3, 47, 48, 56, 57, 58, 67, 68);
        cells(2, 55, 1, 2, 65, 74, 75, 76);
        cells(2, 55, 2, 2, 43, 53, 54, 63);
        cells(2, 55, 3, 2, 34, 35, 36, 45);
        cells(2, 45, 1, 4, 55, 64, 65, 66, 74, 75, 76, 83, 84, 85, 86, 87);
        cells(3, 55, 0, 0);
        cells(3, 55, 0, 2, 56, 57);
        cells(3, 55, 1, 2, 65, 75);
        cells(3, 55, 2, 2, 53, 54);
        cells(3, 55, 3, 5, 5, 15, 25, 35, 45);
    }

    private static void areasAtTheEdges() {
        cells(0, 9, 0, 1, 8, 9, 18, 19);
        cells(1, 90, 0, 1, 80, 90, 91);
        cells(2, 9, 0, 5);
        cells(2, 1, 1, 4, 11, 20, 21, 22, 30, 31, 32, 40, 41, 42, 43);
        cells(3, 98, 0, 5, 99);
        cells(3, 0, 2, 5);
        cells(3, 99, 1, 5);
    }

    /** The words of the document, cell by cell, against every shape, place, direction and size. */
    private static void areasAgainstTheirWords() {
        for (int shape = 0; shape < 4; shape++) {
            for (int cell = 0; cell < 100; cell++) {
                for (int direction = 0; direction < 4; direction++) {
                    for (int size = 0; size <= 5; size++) {
                        compareArea(shape, cell, direction, size);
                    }
                }
            }
        }
    }

    private static void compareArea(int shape, int cell, int direction, int size) {
        EncounterLedger x = new EncounterLedger();
        x.wall(55);
        java.util.TreeSet<Integer> due = wordsOf(shape, cell, direction, size);
        boolean right = x.area(shape, cell, direction, size, -1) == due.size();
        int i = 0;
        for (int other : due) {
            right &= x.area(shape, cell, direction, size, i++) == other;
        }
        Due.holds("area " + shape + " " + cell + " " + direction + " " + size + " is " + due, right);
    }

    private static java.util.TreeSet<Integer> wordsOf(int shape, int cell, int direction, int size) {
        java.util.TreeSet<Integer> found = new java.util.TreeSet<>();
        int x = cell % 10;
        int y = cell / 10;
        int[] ahead = new int[][] {{1, 0}, {0, 1}, {-1, 0}, {0, -1}}[direction];
        if (shape < 2) {
            for (int dx = -size; dx <= size; dx++) {
                for (int dy = -size; dy <= size; dy++) {
                    if (shape == 0 || Math.abs(dx) + Math.abs(dy) <= size) {
                        addCell(found, x + dx, y + dy);
                    }
                }
            }
            return found;
        }
        for (int k = 1; k <= size; k++) {
            int wide = shape == 2 ? k / 2 : 0;
            for (int side = -wide; side <= wide; side++) {
                addCell(found, x + k * ahead[0] + side * ahead[1], y + k * ahead[1] + side * ahead[0]);
            }
        }
        return found;
    }

    private static void addCell(java.util.TreeSet<Integer> found, int column, int row) {
        if (column >= 0 && column < 10 && row >= 0 && row < 10) {
            found.add(10 * row + column);
        }
    }

    private static void areaRefusals() {
        EncounterLedger x = new EncounterLedger();
        Due.is("shape -1", x.area(-1, 0, 0, 0, 0), EncounterLedger.NONE);
        Due.is("shape 4", x.area(4, 0, 0, 9, 0), EncounterLedger.NONE);
        Due.is("cell -1", x.area(0, -1, 0, 0, 0), EncounterLedger.NONE);
        Due.is("cell 100", x.area(0, 100, 0, 0, 0), EncounterLedger.NONE);
        Due.is("direction -1 for a square", x.area(0, 0, -1, 0, 0), EncounterLedger.NONE);
        Due.is("direction 4 for a diamond", x.area(1, 0, 4, 0, -2), EncounterLedger.NONE);
        Due.is("size -1", x.area(0, 0, 0, -1, 0), EncounterLedger.BAD);
        Due.is("size 6", x.area(0, 0, 0, 6, 0), EncounterLedger.BAD);
        Due.is("i -2", x.area(0, 0, 0, 5, -2), EncounterLedger.BAD);
    }

    private static void waysGoAround() {
        EncounterLedger x = new EncounterLedger();
        Due.is("way(100)", x.way(100), EncounterLedger.NONE);
        Due.is("way(-1)", x.way(-1), EncounterLedger.NONE);
        Due.refused("way without an encounter", x, x.way(5), 1);
        x.add(0, 0, 10, 0, 1);
        x.begin(1);
        Due.is("own cell", x.way(0), 0);
        Due.is("the far corner", x.way(99), 18);
        for (int row = 0; row < 9; row++) {
            x.wall(Due.cell(1, row));
        }
        Due.is("around the wall", x.way(2), 20);
        Due.is("a wall", x.way(1), -5);
        x.wall(91);
        Due.is("shut in", x.way(2), -5);
        Due.is("inside", x.way(90), 9);
        x.wall(41);
        Due.is("through the gap", x.way(2), 10);
        EncounterLedger y = new EncounterLedger();
        y.add(1, 0, 10, -5, 1);
        y.add(0, 1, 10, 9, 1);
        y.begin(Due.seed(1, 20));
        Due.is("a row does not go on in the next one", y.way(10), 2);
        Due.is("from edge to edge", y.way(20), 3);
        Due.is("the end of the row", y.way(9), 8);
        y.wall(11);
        Due.is("a foe in the corner bars the way", y.way(10), 6);
        y.wall(12);
        y.wall(2);
        Due.is("shut in by a foe", y.way(10), -5);
        EncounterLedger z = new EncounterLedger();
        z.add(0, 9, 10, 9, 1);
        z.begin(1);
        Due.is("no row goes on in the next one", z.way(10), 10);
    }

    private static void waysPassFriendsAndTheDown() {
        EncounterLedger x = new EncounterLedger();
        Due.read(x, 0, "s0:h99");
        x.add(0, 0, 10, 9, 9);
        x.add(0, 1, 10, -5, 1);
        x.add(1, 2, 10, -5, 1);
        x.begin(Due.seed(20, 1, 1));
        for (int column = 0; column < 10; column++) {
            x.wall(Due.cell(column, 1));
        }
        Due.is("a friend is no goal", x.way(1), -5);
        Due.is("a foe is no goal", x.way(2), -5);
        Due.is("a foe bars the way", x.way(3), -5);
        Due.is("another wall, but passed", x.wall(13), 0);
        Due.is("no way still", x.way(13), -5);
        Due.is("cast on the foe", x.cast(0, 2, 0), 1);
        Due.is("one down", x.account(1), 1);
        Due.is("one down does not bar", x.way(3), 3);
        Due.is("one down is no goal", x.way(2), -5);
        Due.refused("move to one down", x, x.move(2), 5);
        Due.is("move past both", x.move(3), 6);
    }

    private static void moves() {
        EncounterLedger x = new EncounterLedger();
        x.add(0, 0, 10, 0, 3);
        x.begin(1);
        Due.is("a move", x.move(11), 1);
        Due.is("its cell", x.fighter(0, 1), 11);
        Due.is("its entry", x.entry(2, 0), 7);
        Due.is("its entry", x.entry(2, 2), 11);
        Due.is("steps left", x.turn(2), 1);
        Due.refused("too long", x, x.move(0), 6);
        Due.is("the last step", x.move(12), 0);
        Due.refused("no step left", x, x.move(13), 6);
    }

    private static void moveRefusals() {
        EncounterLedger x = new EncounterLedger();
        Due.is("move(-1)", x.move(-1), EncounterLedger.NONE);
        Due.is("move(100)", x.move(100), EncounterLedger.NONE);
        Due.refused("no encounter", x, x.move(5), 1);
        Due.read(x, 0, "s0:k1101");
        Due.read(x, 1, "s0:h99");
        x.add(0, 0, 10, 9, 9);
        x.add(1, 9, 10, 0, 9);
        x.begin(Due.seed(20, 1));
        Due.refused("its own cell", x, x.move(0), 5);
        x.wall(1);
        Due.refused("a wall", x, x.move(1), 5);
        x.wall(10);
        Due.refused("no way", x, x.move(2), 6);
        Due.is("stun", x.cast(0, 9, 0), 1);
        x.endTurn();
        Due.refused("stunned, to a wall", x, x.move(1), 3);
        Due.is("way is told still", x.way(8), 1);
        x.endTurn();
        x.cast(1, 9, 0);
        x.endTurn();
        Due.refused("down", x, x.move(8), 3);
    }

    private static void stepsAddUp() {
        EncounterLedger x = new EncounterLedger();
        Due.read(x, 0, "s0:k3101");
        x.add(0, 0, 10, 9, 2);
        x.add(1, 2, 10, -5, 2);
        x.begin(Due.seed(20, 1));
        Due.is("move", x.move(1), 1);
        Due.is("strike", x.strike(1), 5);
        Due.is("move behind the strike", x.move(0), 0);
        x.endTurn();
        x.endTurn();
        Due.is("fresh steps", x.turn(2), 2);
        Due.is("one step", x.move(1), 1);
        Due.is("haste", x.cast(0, 1, 0), 1);
        Due.is("two times the speed, less one", x.turn(2), 3);
        Due.is("three steps", x.move(31), 0);
    }
}

import java.util.TreeSet;

/** The edges of promise 18, and of what the document says of areas. */
final class EdgesOfAreas {
    private static final int SQUARE = 0;
    private static final int DIAMOND = 1;
    private static final int CONE = 2;
    private static final int LINE = 3;

    private EdgesOfAreas() {
    }

    static void run() {
        middles();
        directions();
        walls();
        arguments();
        numbers();
        errors();
    }

    private static void cells(int shape, int cell, int direction, int size, TreeSet<Integer> due) {
        EncounterLedger x = new EncounterLedger();
        String name = "area(" + shape + ", " + cell + ", " + direction + ", " + size + ", ";
        Due.is(name + "-1)", x.area(shape, cell, direction, size, -1), due.size());
        int i = 0;
        for (int one : due) {
            Due.is(name + i + ")", x.area(shape, cell, direction, size, i++), one);
        }
        Due.is(name + i + ")", x.area(shape, cell, direction, size, i), -5);
    }

    private static void cells(int shape, int cell, int direction, int size, int... due) {
        TreeSet<Integer> all = new TreeSet<>();
        for (int one : due) {
            all.add(one);
        }
        cells(shape, cell, direction, size, all);
    }

    private static TreeSet<Integer> around(int cell, int size, boolean byTheSum) {
        TreeSet<Integer> all = new TreeSet<>();
        for (int other = 0; other < 100; other++) {
            int columns = Math.abs(other % 10 - cell % 10);
            int rows = Math.abs(other / 10 - cell / 10);
            if ((byTheSum ? columns + rows : Math.max(columns, rows)) <= size) {
                all.add(other);
            }
        }
        return all;
    }

    private static void middles() {
        Edge.says("Areas", "A shape has a size from 0 to 5.", () -> {
            int[][] due = {{1, 9, 25, 49, 81, 100}, {1, 5, 13, 25, 41, 59}, {0, 1, 4, 7, 12, 17}, {0, 1, 2, 3, 4, 5}};
            for (int shape = 0; shape < 4; shape++) {
                for (int size = 0; size <= 5; size++) {
                    Due.is("cells of shape " + shape + ", size " + size,
                        new EncounterLedger().area(shape, 44, 0, size, -1), due[shape][size]);
                }
            }
        });
        Edge.says("Areas", "Shape 0, square, with the middle x, y contains the cells whose columns and rows both differ "
            + "from it by at most the size", () -> {
                for (int cell : new int[] {0, 9, 90, 99, 55, 44, 5, 50, 18}) {
                    for (int size = 0; size <= 5; size++) {
                        cells(SQUARE, cell, size % 4, size, around(cell, size, false));
                    }
                }
                cells(SQUARE, 19, 0, 1, 8, 9, 18, 19, 28, 29);
            });
        Edge.says("Areas", "shape 1, diamond, those for which the sum of both differences is at most the size.", () -> {
            for (int cell : new int[] {0, 9, 90, 99, 55, 44, 5, 50, 18}) {
                for (int size = 0; size <= 5; size++) {
                    cells(DIAMOND, cell, size % 4, size, around(cell, size, true));
                }
            }
            cells(DIAMOND, 20, 0, 2, 0, 10, 11, 20, 21, 22, 30, 31, 40);
        });
    }

    private static void directions() {
        Edge.says("Areas", "Shape 2, cone, from x, y in a direction contains the cells that are k steps in this direction, "
            + "for k from 1 to the size, and at most k / 2, rounded down, to both sides of it", () -> {
                cells(CONE, 40, 0, 1, 41);
                cells(CONE, 40, 0, 2, 32, 41, 42, 52);
                cells(CONE, 40, 0, 3, 32, 33, 41, 42, 43, 52, 53);
                cells(CONE, 40, 0, 4, 24, 32, 33, 34, 41, 42, 43, 44, 52, 53, 54, 64);
                cells(CONE, 40, 0, 5, 24, 25, 32, 33, 34, 35, 41, 42, 43, 44, 45, 52, 53, 54, 55, 64, 65);
                cells(CONE, 4, 1, 4, 14, 23, 24, 25, 33, 34, 35, 42, 43, 44, 45, 46);
                cells(CONE, 59, 2, 4, 35, 46, 47, 45, 55, 56, 57, 58, 65, 66, 67, 75);
                cells(CONE, 95, 3, 4, 85, 74, 75, 76, 64, 65, 66, 53, 54, 55, 56, 57);
            });
        Edge.says("Areas", "shape 3, line, those that are 1 to the size steps in this direction.", () -> {
            cells(LINE, 40, 0, 1, 41);
            cells(LINE, 40, 0, 5, 41, 42, 43, 44, 45);
            cells(LINE, 4, 1, 5, 14, 24, 34, 44, 54);
            cells(LINE, 59, 2, 5, 54, 55, 56, 57, 58);
            cells(LINE, 95, 3, 5, 45, 55, 65, 75, 85);
        });
        Edge.says("In doubt", "Cells outside the grid are left out, and a cone or line of the size 0 has none.", () -> {
            cells(LINE, 8, 0, 5, 9);
            cells(LINE, 9, 0, 5);
            cells(LINE, 50, 2, 5);
            cells(LINE, 95, 1, 5);
            cells(LINE, 15, 3, 5, 5);
            cells(CONE, 0, 1, 2, 10, 20, 21);
            cells(CONE, 97, 0, 3, 89, 98, 99);
            cells(CONE, 10, 2, 5);
            cells(CONE, 12, 2, 2, 0, 10, 11, 20);
            for (int direction = 0; direction < 4; direction++) {
                cells(CONE, 55, direction, 0);
                cells(LINE, 55, direction, 0);
            }
        });
    }

    private static void walls() {
        Edge.says("Areas", "Walls do not matter for areas.", () -> {
            for (int shape = 0; shape < 4; shape++) {
                EncounterLedger x = new EncounterLedger();
                EncounterLedger plain = new EncounterLedger();
                for (int cell = 30; cell < 80; cell++) {
                    x.wall(cell);
                }
                for (int i = -1; i < 60; i++) {
                    Due.is("cell " + i + " of shape " + shape + " among walls", x.area(shape, 54, 0, 4, i),
                        plain.area(shape, 54, 0, 4, i));
                }
            }
        });
        Edge.says("Areas", "Walls do not matter", () -> {
            EncounterLedger x = Edge.fighting("c5:h1", "l5:h1", "s5:h1", "d5:h1");
            x.add(1, 47, 9, 0, 1);
            x.wall(46);
            for (int power = 0; power < 4; power++) {
                Due.is("cast behind a wall", x.cast(power, 44, 0), power < 2 ? 2 : 3);
                Due.nextTurnOf(x, 0);
            }
        });
    }

    private static void arguments() {
        Edge.says("18", "`shape`: the shape, 0 to 3", () -> {
            for (int shape : Edge.outside(0, 3)) {
                Edge.error("shape " + shape, Edge::pair, x -> x.area(shape, 0, 0, 0, 0), Edge.NONE);
            }
        });
        Edge.says("18", "`cell`: the middle, or where it begins", () -> {
            for (int cell : Edge.outside(0, 99)) {
                for (int shape = 0; shape < 4; shape++) {
                    int one = shape;
                    Edge.error("cell " + cell, Edge::pair, x -> x.area(one, cell, 0, 1, -1), Edge.NONE);
                }
            }
            cells(SQUARE, 0, 0, 0, 0);
            cells(SQUARE, 99, 0, 0, 99);
            cells(LINE, 0, 0, 1, 1);
            cells(LINE, 99, 3, 1, 89);
        });
        Edge.says("18", "`direction`: the direction", () -> {
            for (int direction : Edge.outside(0, 3)) {
                for (int shape = 0; shape < 4; shape++) {
                    int one = shape;
                    Edge.error("direction " + direction, Edge::pair, x -> x.area(one, 55, direction, 1, -1), Edge.NONE);
                }
            }
        });
        Edge.says("18", "`size`: the size, 0 to 5", () -> {
            for (int size : Edge.outside(0, 5)) {
                for (int shape = 0; shape < 4; shape++) {
                    int one = shape;
                    Edge.error("size " + size, Edge::pair, x -> x.area(one, 55, 0, size, -1), Edge.BAD);
                }
            }
        });
        Edge.says("18", "`i`: the number of the cell in ascending order, from 0, or -1 for how many there are", () -> {
            EncounterLedger x = new EncounterLedger();
            Due.is("how many", x.area(SQUARE, 55, 0, 5, -1), 100);
            for (int i = 0; i < 100; i++) {
                Due.is("cell " + i, x.area(SQUARE, 55, 0, 5, i), i);
            }
            Due.is("behind the last", x.area(SQUARE, 55, 0, 5, 100), -5);
        });
    }

    private static void numbers() {
        Edge.says("18", "Returns a cell of an area, or how many cells it has.", () -> {
            EncounterLedger x = new EncounterLedger();
            Due.is("how many", x.area(LINE, 44, 2, 3, -1), 3);
            Due.is("the first", x.area(LINE, 44, 2, 3, 0), 41);
            Due.is("the last", x.area(LINE, 44, 2, 3, 2), 43);
        });
        Edge.says("18", "Returns the cell or the number, -5 if there is no such number", () -> {
            EncounterLedger x = new EncounterLedger();
            for (int i : new int[] {1, 2, 99, 100, Integer.MAX_VALUE}) {
                Due.is("cell " + i + " of one", x.area(SQUARE, 55, 0, 0, i), -5);
            }
            for (int i : new int[] {0, 1, Integer.MAX_VALUE}) {
                Due.is("cell " + i + " of none", x.area(CONE, 55, 0, 0, i), -5);
            }
            Due.is("number of none", x.area(CONE, 55, 0, 0, -1), 0);
        });
    }

    private static void errors() {
        Edge.says("18", "NONE if there is no such shape, cell or direction", () -> {
            Edge.error("shape, ahead of BAD", Edge::pair, x -> x.area(4, 0, 0, 6, -2), Edge.NONE);
            Edge.error("cell, ahead of BAD", Edge::pair, x -> x.area(0, 100, 0, 6, -2), Edge.NONE);
            Edge.error("direction, ahead of BAD", Edge::pair, x -> x.area(0, 0, 4, 6, -2), Edge.NONE);
        });
        Edge.says("18", "BAD if the size is out of range or i is below -1.", () -> {
            for (int i : new int[] {-2, -5, Integer.MIN_VALUE}) {
                for (int shape = 0; shape < 4; shape++) {
                    int one = shape;
                    Edge.error("i " + i, Edge::pair, x -> x.area(one, 55, 0, 5, i), Edge.BAD);
                    Edge.error("i " + i + " of none", Edge::pair, x -> x.area(one, 9, 0, 0, i), Edge.BAD);
                }
            }
            Edge.error("a size that is out of range, ahead of -5", Edge::pair, x -> x.area(0, 0, 0, 6, 1000), Edge.BAD);
        });
    }
}

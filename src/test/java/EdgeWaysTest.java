/** The terms of ways, promises 20 and 21: a test of each sentence that names an edge. */
public final class EdgeWaysTest {
    private static final int WALL = 1, GLASS = 2, CURTAIN = 3;
    private static final String SNAKE =
            "......../#######./......../.#######/......../#######./......../.#######";

    private final Due due = new Due("EdgeWaysTest");

    public static void main(String[] args) {
        EdgeWaysTest test = new EdgeWaysTest();
        test.waysGoWhereFeetGo();
        test.theFirstCellDoesNotCount();
        test.eachStepCostsOneAndTheLight();
        test.thereMayBeNoWay();
        test.theLowestDirectionGoesFirst();
        test.theLowestDirectionInTheLight();
        test.theLeastExposedWayIsTaken();
        test.theLongestWay();
        test.exposureTellsTheSameInBothWays();
        test.theWayBeginsAtTheWalker();
        test.theWayHasNotSoManyCells();
        test.due.close();
    }

    private void exposure(PillarLight x, int cell, int want) {
        due.is("exposure(" + cell + ", 0)", x.exposure(cell, 0), want);
        due.is("exposure(" + cell + ", 1)", x.exposure(cell, 1), want);
    }

    private void way(PillarLight x, int cell, int... want) {
        for (int index = 0; index < want.length; index++) {
            due.is("way(" + cell + ", " + index + ")", x.way(cell, index), want[index]);
        }
        due.is("way(" + cell + ", " + want.length + ")", x.way(cell, want.length), -4);
    }

    private void waysGoWhereFeetGo() {
        due.sentence(0, "Steps go in the directions 0 up, 1 to the right, 2 down, 3 to the left, into the next cell, if it "
                + "is on the map and does not stop feet.");
        for (int kind = 0; kind <= 3; kind++) {
            boolean open = kind == 0 || kind == CURTAIN;
            PillarLight x = new PillarLight();
            x.put(1, kind);
            exposure(x, 1, open ? 1 : -4);
            exposure(x, 2, open ? 2 : 4);
            way(x, 2, open ? new int[] {0, 1, 2} : new int[] {0, 8, 9, 10, 2});
            due.is("count(7) with kind " + kind, x.count(7), open ? 64 : 63);
        }
        PillarLight y = new PillarLight();
        for (int row = 0; row < 8; row++) {
            y.put(8 * row + 1, row % 2 == 0 ? WALL : GLASS);
        }
        for (int row = 0; row < 8; row++) {
            exposure(y, 8 * row, row);
            exposure(y, 8 * row + 7, -4);
        }
        due.is("count(7) of one column", y.count(7), 8);
        PillarLight z = new PillarLight();
        z.put(8, WALL);
        z.put(9, WALL);
        exposure(z, 10, 3);
        z.put(1, CURTAIN);
        exposure(z, 10, 3);
        z.put(2, GLASS);
        exposure(z, 10, -4);
        due.is("count(7) of two cells", z.count(7), 2);
    }

    private void theFirstCellDoesNotCount() {
        due.sentence(0, "(the first cell does not count; a cell counts as often as it is stepped into)");
        PillarLight x = new PillarLight();
        x.lamp(0, 9, 9);
        exposure(x, 0, 0);
        exposure(x, 1, 1 + 24);
        exposure(x, 8, 1 + 24);
        way(x, 0, 0);
        x.step(1);
        exposure(x, 0, 1 + 36);
        exposure(x, 1, 0);
    }

    private void eachStepCostsOneAndTheLight() {
        due.sentence(0, "The exposure of a way is the sum of 1 and the light of the cell, for each cell into which it "
                + "steps");
        for (int strength = 1; strength <= 9; strength++) {
            PillarLight x = new PillarLight();
            for (int cell = 8; cell < 16; cell++) {
                x.put(cell, GLASS);
            }
            x.lamp(7, strength, 9);
            int sum = 0;
            for (int cell = 1; cell < 8; cell++) {
                sum += 1 + 8 * strength / (2 + (7 - cell) * (7 - cell));
                exposure(x, cell, sum);
            }
            x.fill(0, 0);
            exposure(x, 7, 7);
        }
    }

    private void thereMayBeNoWay() {
        due.sentence(0, "there may be no way.");
        PillarLight x = new PillarLight();
        x.put(1, WALL);
        x.put(8, GLASS);
        for (int cell = 1; cell < 64; cell++) {
            exposure(x, cell, -4);
            due.is("way(" + cell + ", 0)", x.way(cell, 0), -4);
            due.is("way(" + cell + ", 1)", x.way(cell, 1), -4);
        }
        exposure(x, 0, 0);
        way(x, 0, 0);
        due.is("count(7)", x.count(7), 1);
        PillarLight y = new PillarLight();
        y.put(55, WALL);
        y.put(62, WALL);
        exposure(y, 63, -4);
        exposure(y, 55, -4);
        exposure(y, 54, 12);
        y.put(55, CURTAIN);
        exposure(y, 63, 14);
    }

    /** In the dark each step that comes nearer keeps the least exposure. */
    private void theLowestDirectionGoesFirst() {
        due.sentence(0, "each step goes in the lowest direction, with which the least exposure of what is left, with this "
                + "step, is the least one still.");
        for (int goal = 0; goal < 64; goal++) {
            PillarLight x = EdgeMapTest.walkerAt(27);
            int cell = 27;
            int index = 0;
            while (cell != goal) {
                due.is("way(" + goal + ", " + index + ")", x.way(goal, index), cell);
                if (goal / 8 < cell / 8) {
                    cell -= 8;
                } else if (goal % 8 > cell % 8) {
                    cell++;
                } else {
                    cell += goal / 8 > cell / 8 ? 8 : -1;
                }
                index++;
            }
            due.is("way(" + goal + ", " + index + ")", x.way(goal, index), goal);
            due.is("way(" + goal + ", " + (index + 1) + ")", x.way(goal, index + 1), -4);
            exposure(x, goal, index);
        }
    }

    private void theLowestDirectionInTheLight() {
        // Two ways round the wall in 9, with the same light on both.
        PillarLight x = new PillarLight();
        x.put(9, WALL);
        x.lamp(18, 9, 9);
        exposure(x, 18, 1 + 13 + 25 + 37);
        way(x, 18, 0, 1, 2, 10, 18);
        // A little more light on the one.
        x.lamp(3, 1, 9);
        way(x, 18, 0, 8, 16, 17, 18);
        x.fill(1, 0);
        way(x, 18, 0, 1, 2, 10, 18);
    }

    private void theLeastExposedWayIsTaken() {
        PillarLight x = new PillarLight();
        for (int cell = 9; cell <= 14; cell++) {
            x.put(cell, WALL);
        }
        x.lamp(4, 9, 9);
        // The way under the lamp has 8 steps and costs 128; the one below the walls is longer, and dark.
        exposure(x, 15, 10);
        way(x, 15, 0, 8, 16, 17, 18, 19, 20, 21, 22, 23, 15);
        exposure(x, 4, 7 + 13 + 25 + 37);
        x.fill(0, 0);
        exposure(x, 15, 8);
        way(x, 15, 0, 1, 2, 3, 4, 5, 6, 7, 15);
    }

    private void theLongestWay() {
        PillarLight x = new PillarLight();
        MapTest.type(x, SNAKE);
        due.is("load()", x.load(), 28);
        exposure(x, 56, 35);
        due.is("way(56, 0)", x.way(56, 0), 0);
        due.is("way(56, 8)", x.way(56, 8), 15);
        due.is("way(56, 16)", x.way(56, 16), 16);
        due.is("way(56, 17)", x.way(56, 17), 24);
        due.is("way(56, 34)", x.way(56, 34), 48);
        due.is("way(56, 35)", x.way(56, 35), 56);
        due.is("way(56, 36)", x.way(56, 36), -4);
        due.is("way(56, 63)", x.way(56, 63), -4);
        due.is("count(7)", x.count(7), 36);
        x.lamp(48, 9, 9);
        exposure(x, 57, -4);
        due.is("way(57, 0)", x.way(57, 0), -4);
    }

    private void exposureTellsTheSameInBothWays() {
        due.sentence(20, "Returns the exposure (the same for both; 0 for the walker's cell); INVALID_ARGUMENT; NOT_FOUND "
                + "if there is no way.");
        PillarLight x = new PillarLight();
        MapTest.type(x, ".....#../.##..#../.#..=.../...~..../..==..~./.#....#./.#.##.../........");
        x.load();
        x.lamp(19, 9, 9);
        x.lamp(38, 7, 9);
        x.lamp(60, 3, 9);
        int found = 0;
        for (int cell = 0; cell < 64; cell++) {
            int told = x.exposure(cell, 0);
            due.is("exposure(" + cell + ", 1)", x.exposure(cell, 1), told);
            due.holds("a way has an exposure", told == -4 || told > 0 || cell == 0 && told == 0);
            found += told == -4 ? 0 : 1;
        }
        due.is("cells with a way", x.count(7), found);
        exposure(x, 0, 0);
        due.is("exposure to a wall, in a third way", x.exposure(9, 2), -1);
        due.is("exposure off the map", x.exposure(64, 0), -1);
    }

    private void theWayBeginsAtTheWalker() {
        due.sentence(21, "`index`: 0 for the walker's cell, 1 for the first cell into which it steps, and so on");
        int[] walkers = {0, 7, 27, 56, 63};
        for (int walker : walkers) {
            PillarLight x = EdgeMapTest.walkerAt(walker);
            due.is("way(" + walker + ", 0)", x.way(walker, 0), walker);
            due.is("way(" + walker + ", 1)", x.way(walker, 1), -4);
            for (int goal = 0; goal < 64; goal++) {
                due.is("way(" + goal + ", 0)", x.way(goal, 0), walker);
            }
            int down = walker / 8 == 7 ? walker - 8 : walker + 8;
            due.is("way(" + down + ", 1)", x.way(down, 1), down);
        }
    }

    private void theWayHasNotSoManyCells() {
        due.sentence(21, "Returns the cell; INVALID_ARGUMENT (also if index is below 0); NOT_FOUND if there is no way, or it "
                + "has not so many cells.");
        PillarLight x = new PillarLight();
        x.put(9, WALL);
        x.put(10, GLASS);
        int[] above = {15, 16, 62, 63, 64, 65, 256, 65536, Integer.MAX_VALUE - 1, Integer.MAX_VALUE};
        for (int index : above) {
            due.is("way(63, " + index + ")", x.way(63, index), -4);
            due.is("way(0, " + index + ")", x.way(0, index), -4);
            due.is("way(9, " + index + ")", x.way(9, index), -4);
        }
        int[] below = {-1, -2, -64, -65536, Integer.MIN_VALUE + 1, Integer.MIN_VALUE};
        for (int index : below) {
            due.is("way(63, " + index + ")", x.way(63, index), -1);
            due.is("way(0, " + index + ")", x.way(0, index), -1);
            due.is("way(9, " + index + ") to a wall", x.way(9, index), -1);
            due.is("way(10, " + index + ") to glass", x.way(10, index), -1);
        }
        due.is("way(63, 14)", x.way(63, 14), 63);
        due.is("way(-1, 99)", x.way(-1, 99), -1);
        due.is("way(64, 99)", x.way(64, 99), -1);
    }
}

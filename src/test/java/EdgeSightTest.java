/** The terms of sight, promises 15 and 16, and what a cell sees: a test of each sentence that names an edge. */
public final class EdgeSightTest {
    private static final int WALL = 1, GLASS = 2, CURTAIN = 3;

    private final Due due = new Due("EdgeSightTest");

    public static void main(String[] args) {
        EdgeSightTest test = new EdgeSightTest();
        test.anInsideStopsALine();
        test.oneStopIsEnough();
        test.twoCellsAtACornerStopALine();
        test.eachCornerOfALineIsLookedAt();
        test.theEndsDoNotMatter();
        test.aTouchedCornerIsNoInside();
        test.aCellSeesItself();
        test.bothWaysAnswerTheSame();
        test.theFirstStopIsFromTheFormerCellOn();
        test.endsAndGlassStopNothing();
        test.cornersAloneAreNoStop();
        test.howManyCellsACellSees();
        test.due.close();
    }

    private static boolean stopsLight(int kind) {
        return kind == WALL || kind == CURTAIN;
    }

    private static PillarLight with(int... cellsAndKinds) {
        PillarLight x = new PillarLight();
        for (int i = 0; i < cellsAndKinds.length; i += 2) {
            x.put(cellsAndKinds[i], cellsAndKinds[i + 1]);
        }
        return x;
    }

    /** Looks in both ways, from both ends. */
    private void sees(PillarLight x, int from, int to, boolean free) {
        int want = free ? 1 : 0;
        for (int way = 0; way <= 1; way++) {
            due.is("sees(" + from + ", " + to + ", " + way + ")", x.sees(from, to, way), want);
            due.is("sees(" + to + ", " + from + ", " + way + ")", x.sees(to, from, way), want);
        }
    }

    private void anInsideStopsALine() {
        due.sentence(0, "It is not free, if it goes through the inside of a third cell that stops light");
        // From, to, and a cell between: level, upright, slanting in each direction, flat and steep.
        int[][] lines = {{0, 7, 6}, {7, 0, 6}, {0, 56, 48}, {63, 7, 15}, {0, 63, 54}, {7, 56, 49}, {0, 18, 9},
            {0, 10, 1}, {0, 10, 9}, {0, 17, 8}, {0, 17, 9}, {0, 15, 3}, {0, 15, 12}, {0, 23, 10}, {0, 23, 13},
            {56, 1, 48}, {56, 1, 9}, {0, 62, 27}, {0, 62, 35}, {7, 57, 36}, {7, 57, 28}};
        for (int[] line : lines) {
            for (int kind = 0; kind <= 3; kind++) {
                PillarLight x = with(line[2], kind);
                sees(x, line[0], line[1], !stopsLight(kind));
                int want = stopsLight(kind) ? line[2] : -4;
                due.is("stops(" + line[0] + ", " + line[1] + ")", x.stops(line[0], line[1]), want);
            }
        }
    }

    private void oneStopIsEnough() {
        for (int pillar = 1; pillar <= 6; pillar++) {
            PillarLight x = with(pillar, pillar % 2 == 0 ? WALL : CURTAIN);
            for (int to = 1; to <= 7; to++) {
                sees(x, 0, to, to <= pillar);
                sees(x, 7, 7 - to, 7 - to >= pillar);
            }
        }
    }

    private void twoCellsAtACornerStopALine() {
        due.sentence(0, "and if it goes through a corner of cells, where the two cells that have this corner, and into "
                + "which the line does not go there, both stop light.");
        for (int corner = 0; corner < 49; corner++) {
            int upperLeft = corner / 7 * 8 + corner % 7;
            for (int kinds = 0; kinds < 16; kinds++) {
                int one = kinds / 4;
                int other = kinds % 4;
                boolean free = !stopsLight(one) || !stopsLight(other);
                PillarLight falling = with(upperLeft + 1, one, upperLeft + 8, other);
                sees(falling, upperLeft, upperLeft + 9, free);
                due.is("stops of the falling line", falling.stops(upperLeft, upperLeft + 9), -4);
                PillarLight rising = walkerAway(upperLeft);
                rising.put(upperLeft, one);
                rising.put(upperLeft + 9, other);
                sees(rising, upperLeft + 8, upperLeft + 1, free);
                due.is("stops of the rising line", rising.stops(upperLeft + 8, upperLeft + 1), -4);
            }
        }
    }

    /** Takes the walker out of the cell 0 if a pillar shall stand there. */
    private static PillarLight walkerAway(int cell) {
        return cell == 0 ? EdgeMapTest.walkerAt(56) : new PillarLight();
    }

    private void eachCornerOfALineIsLookedAt() {
        for (int row = 0; row < 7; row++) {
            PillarLight x = with(9 * row + 1, WALL, 9 * row + 8, CURTAIN);
            for (int to = 1; to <= 7; to++) {
                sees(x, 0, 9 * to, to <= row);
                sees(x, 63, 63 - 9 * to, 7 - to > row);
            }
        }
        // Lines through one corner, but not in the slant of the cells at it.
        sees(with(2, WALL, 9, WALL), 0, 11, false);
        sees(with(2, WALL), 0, 11, true);
        sees(with(9, CURTAIN), 0, 11, true);
        sees(with(8, WALL, 3, WALL), 0, 11, true);
        sees(with(16, WALL, 9, CURTAIN), 0, 25, false);
        sees(with(16, WALL, 9, GLASS), 0, 25, true);
        sees(with(4, WALL, 11, WALL), 0, 15, false);
        sees(with(4, WALL, 10, WALL), 0, 15, true);
        sees(with(19, WALL, 26, WALL), 0, 45, false);
        sees(with(20, WALL, 26, WALL), 0, 45, true);
        sees(with(10, CURTAIN, 17, WALL), 8, 19, false);
        sees(with(10, CURTAIN, 25, WALL), 8, 19, true);
    }

    private void theEndsDoNotMatter() {
        due.sentence(0, "(The two cells at its ends do not matter.");
        int[][] lines = {{1, 2}, {1, 7}, {8, 56}, {9, 18}, {9, 63}, {10, 17}, {14, 49}, {1, 63}, {8, 63}};
        for (int[] line : lines) {
            for (int kinds = 0; kinds < 16; kinds++) {
                PillarLight x = with(line[0], kinds / 4, line[1], kinds % 4);
                sees(x, line[0], line[1], true);
                due.is("stops(" + line[0] + ", " + line[1] + ")", x.stops(line[0], line[1]), -4);
                due.is("stops(" + line[1] + ", " + line[0] + ")", x.stops(line[1], line[0]), -4);
            }
        }
    }

    private void aTouchedCornerIsNoInside() {
        due.sentence(0, "The inside of a cell is the cell without its sides and corners.)");
        PillarLight above = with();
        for (int row = 0; row < 7; row++) {
            above.put(9 * row + 1, WALL);
        }
        sees(above, 0, 63, true);
        due.is("stops(0, 63) beside seven walls", above.stops(0, 63), -4);
        PillarLight below = with();
        for (int row = 0; row < 7; row++) {
            below.put(9 * row + 8, CURTAIN);
        }
        sees(below, 0, 63, true);
        below.put(1, WALL);
        sees(below, 0, 63, false);
        sees(below, 9, 63, true);
        // On either side of the line in turn, never two at one corner.
        PillarLight turns = with(1, WALL, 17, WALL, 19, CURTAIN, 35, WALL, 37, WALL, 53, CURTAIN, 55, WALL);
        sees(turns, 0, 63, true);
        turns.put(10, WALL);
        sees(turns, 0, 63, false);
        due.is("stops(0, 63) at a corner", turns.stops(0, 63), -4);
    }

    private void aCellSeesItself() {
        due.sentence(0, "A cell sees itself.");
        for (int cell = 0; cell < 64; cell++) {
            for (int kind = 0; kind <= 3; kind++) {
                PillarLight x = walkerAway(cell);
                x.put(cell, kind);
                sees(x, cell, cell, true);
                due.is("stops(" + cell + ", " + cell + ")", x.stops(cell, cell), -4);
            }
        }
        PillarLight y = with(18, WALL, 19, WALL, 20, WALL, 26, WALL, 27, WALL, 28, WALL, 34, WALL, 35, WALL, 36, WALL);
        sees(y, 27, 27, true);
    }

    private void bothWaysAnswerTheSame() {
        due.sentence(15, "Returns 1 if it does, otherwise 0 (the same for both)");
        for (int from = 0; from < 64; from++) {
            PillarLight x = with(10, WALL, 12, CURTAIN, 19, GLASS, 20, WALL, 29, WALL, 33, CURTAIN, 35, WALL, 42, WALL,
                    44, CURTAIN, 53, WALL);
            for (int to = 0; to < 64; to++) {
                int along = x.sees(from, to, 0);
                due.holds("1 or 0 of " + from + " and " + to, along == 0 || along == 1);
                due.is("sees(" + from + ", " + to + ", 1)", x.sees(from, to, 1), along);
                due.is("sees(" + to + ", " + from + ", 1)", x.sees(to, from, 1), along);
            }
        }
    }

    private void theFirstStopIsFromTheFormerCellOn() {
        due.sentence(16, "Returns the first third cell, from the former cell on, that stops light, and through the "
                + "inside of which the line goes");
        int[][] runs = {{0, 7, 2, 5}, {0, 56, 8, 48}, {0, 63, 9, 54}, {7, 56, 14, 49}, {0, 15, 3, 12}, {0, 57, 8, 49},
            {16, 23, 17, 22}, {62, 0, 53, 9}, {0, 10, 1, 9}, {0, 17, 8, 9}};
        for (int[] run : runs) {
            PillarLight x = with(run[2], WALL, run[3], CURTAIN);
            due.is("stops(" + run[0] + ", " + run[1] + ")", x.stops(run[0], run[1]), run[2]);
            due.is("stops(" + run[1] + ", " + run[0] + ")", x.stops(run[1], run[0]), run[3]);
            x.put(run[2], GLASS);
            due.is("stops of the farther one", x.stops(run[0], run[1]), run[3]);
            x.put(run[2], CURTAIN);
            x.put(run[3], 0);
            due.is("stops of the nearer one", x.stops(run[1], run[0]), run[2]);
        }
        // A corner that stops the line before is no cell.
        PillarLight y = with(1, WALL, 8, WALL, 18, WALL, 45, CURTAIN);
        due.is("stops(0, 63) behind a corner", y.stops(0, 63), 18);
        due.is("stops(63, 0) before a corner", y.stops(63, 0), 45);
    }

    private void endsAndGlassStopNothing() {
        due.sentence(16, "NOT_FOUND if there is none (the line is free, or stopped at corners alone).");
        PillarLight x = with(1, GLASS, 2, WALL, 3, GLASS, 5, CURTAIN);
        due.is("stops(0, 0)", x.stops(0, 0), -4);
        due.is("stops(2, 2) of a wall", x.stops(2, 2), -4);
        due.is("stops(0, 1)", x.stops(0, 1), -4);
        due.is("stops(0, 2)", x.stops(0, 2), -4);
        due.is("stops(2, 5)", x.stops(2, 5), -4);
        due.is("stops(5, 2)", x.stops(5, 2), -4);
        due.is("stops(0, 3)", x.stops(0, 3), 2);
        due.is("stops(7, 0)", x.stops(7, 0), 5);
        due.is("stops(63, 0)", x.stops(63, 0), -4);
    }

    private void cornersAloneAreNoStop() {
        PillarLight x = with();
        for (int row = 0; row < 7; row++) {
            x.put(9 * row + 1, WALL);
            x.put(9 * row + 8, WALL);
        }
        due.is("stops(0, 63) at seven corners", x.stops(0, 63), -4);
        due.is("stops(63, 0) at seven corners", x.stops(63, 0), -4);
        sees(x, 0, 63, false);
        x.put(54, CURTAIN);
        due.is("stops(0, 63) in the last cell", x.stops(0, 63), 54);
    }

    private void howManyCellsACellSees() {
        due.sentence(14, "7: how many cells it sees (with itself)");
        for (int cell = 0; cell < 64; cell++) {
            due.is("cell(" + cell + ", 7) of the empty map", new PillarLight().cell(cell, 7), 64);
        }
        due.is("cell(0, 7) behind three walls", with(1, WALL, 8, WALL, 9, WALL).cell(0, 7), 4 - 1);
        due.is("cell(0, 7) behind three panes", with(1, GLASS, 8, GLASS, 9, GLASS).cell(0, 7), 64);
        PillarLight y = with(18, WALL, 19, WALL, 20, WALL, 26, WALL, 28, WALL, 34, WALL, 35, WALL, 36, WALL);
        due.is("cell(27, 7) behind eight walls", y.cell(27, 7), 9 - 4);
        y.put(27, CURTAIN);
        due.is("cell(27, 7) of a curtain there", y.cell(27, 7), 9 - 4);
        PillarLight z = new PillarLight();
        MapTest.type(z, MapTest.FLOORS.replace('.', '~'));
        z.load();
        due.is("cell(27, 7) among curtains", z.cell(27, 7), 5);
        due.is("cell(0, 7) among curtains", z.cell(0, 7), 3);
    }
}

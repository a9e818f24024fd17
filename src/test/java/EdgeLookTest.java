/** Promises 14, 18, 19 and 22 to 24: a test of each sentence that names an edge. */
public final class EdgeLookTest {
    private static final int FLOOR = 0, WALL = 1, GLASS = 2, CURTAIN = 3;
    private static final String FLOORS = MapTest.FLOORS;

    private final Due due = new Due("EdgeLookTest");

    public static void main(String[] args) {
        EdgeLookTest test = new EdgeLookTest();
        test.bitsOfLamps();
        test.theLampInACell();
        test.countsOfAnEmptyMap();
        test.countsOfAFullMap();
        test.whereFeetReach();
        test.theGreatestLight();
        test.countsOfThePadAndTheHistory();
        test.litShareFromNoneToAll();
        test.ifPutTellsWhatPutWouldBring();
        test.ifPutTakesTheLampInIt();
        test.ifPutAtTheWalker();
        test.bestLampAlsoWithSix();
        test.bestLampIsTheLowestOfSeveral();
        test.bestLampCountsLitCellsThatItDoesNotSee();
        test.bestLampIsTheBest();
        test.bestLampWithoutACell();
        test.allIsDarkNow();
        test.allIsDarkBehindSteps();
        test.allIsDarkWhateverStepsTheyAre();
        test.due.close();
    }

    private static PillarLight load(String map) {
        PillarLight x = new PillarLight();
        MapTest.type(x, map);
        x.load();
        return x;
    }

    private void bitsOfLamps() {
        due.sentence(14, "5: the lamps that give it light above 0, as bits (the lamp l counts 2 to the power of l)");
        PillarLight x = new PillarLight();
        due.is("cell(27, 5) without lamps", x.cell(27, 5), 0);
        int[] cells = {18, 19, 20, 26, 27, 28};
        for (int lamp = 0; lamp < 6; lamp++) {
            x.lamp(cells[lamp], 1, 9);
            due.is("cell(27, 5) with " + (lamp + 1), x.cell(27, 5), (2 << lamp) - 1);
        }
        due.is("cell(28, 5), far from two", x.cell(28, 5), 63);
        due.is("cell(25, 5), far from two", x.cell(25, 5), 1 + 2 + 8 + 16);
        due.is("cell(63, 5), far from all", x.cell(63, 5), 0);
        for (int lamp = 0; lamp < 6; lamp++) {
            x.fill(lamp, 0);
            due.is("without fuel in " + lamp, x.cell(27, 5), 63 - ((2 << lamp) - 1));
        }
    }

    private void theLampInACell() {
        due.sentence(14, "6: the lamp in it, NOT_FOUND without one");
        PillarLight x = new PillarLight();
        for (int lamp = 0; lamp < 6; lamp++) {
            due.is("before", x.cell(63 - lamp, 6), -4);
            x.lamp(63 - lamp, 1, 1);
            due.is("the lamp", x.cell(63 - lamp, 6), lamp);
        }
        due.is("beside", x.cell(57, 6), -4);
        x.fill(5, 0);
        due.is("without fuel", x.cell(58, 6), 5);
        x.takeLamp(0);
        due.is("taken away", x.cell(63, 6), -4);
        due.is("the next one", x.cell(62, 6), 0);
    }

    private void countsOfAnEmptyMap() {
        due.sentence(18, "`what`: how many cells are 0: floors; 1: walls; 2: panes of glass; 3: curtains; 4: lit; 5: seen by "
                + "the walker; 6: remembered; 7: to be reached by the walker on some way (with the walker's own); and 8: "
                + "lamps; 9: the walker's cell; 10: steps made so far; 11: the sum of the light of all cells; 12: the "
                + "greatest light of a cell; 13: the lowest cell with it; 14 and 15: the settings 0 and 1; 16: the length "
                + "of the pad; 17: states in the history");
        int[] want = {64, 0, 0, 0, 0, 4, 4, 64, 0, 0, 0, 0, 0, 0, 3, 1, 0, 0};
        for (int what = -1; what <= 18; what++) {
            boolean is = what >= 0 && what <= 17;
            due.is("count(" + what + ")", new PillarLight().count(what), is ? want[what] : -1);
        }
    }

    private void countsOfAFullMap() {
        char[] signs = {'.', '#', '=', '~'};
        for (int kind = 0; kind <= 3; kind++) {
            PillarLight x = load("." + FLOORS.substring(1).replace('.', signs[kind]));
            for (int other = 0; other <= 3; other++) {
                int want = other == kind ? 63 : 0;
                due.is("count(" + other + ") of kind " + kind, x.count(other), other == FLOOR ? want + 1 : want);
            }
        }
        due.is("count(3) of curtains alone", load(FLOORS.replace('.', '~')).count(3), 64);
        due.is("count(0) of curtains alone", load(FLOORS.replace('.', '~')).count(0), 0);
        PillarLight y = new PillarLight();
        y.lamp(27, 9, 9);
        y.set(PillarLight.DIM, 1);
        due.is("count(4) where all is lit", y.count(4), 64);
        due.is("count(5) where all is seen", y.count(5), 64);
        due.is("count(6) where all is remembered", y.count(6), 64);
    }

    private void whereFeetReach() {
        PillarLight x = load(".#" + FLOORS.substring(2, 9) + "=" + FLOORS.substring(10));
        due.is("count(7) between pillars", x.count(7), 1);
        x.put(1, CURTAIN);
        due.is("count(7) through a curtain", x.count(7), 63);
        due.is("count(7) among curtains", load(FLOORS.replace('.', '~')).count(7), 64);
        PillarLight y = load("......../########/" + FLOORS.substring(18));
        due.is("count(7) of one row", y.count(7), 8);
        y.put(15, GLASS);
        due.is("count(7) behind glass", y.count(7), 8);
        y.put(15, FLOOR);
        due.is("count(7) through a gate", y.count(7), 64 - 7);
        due.is("count(7) of the last row", walkedDown().count(7), 8);
    }

    private static PillarLight walkedDown() {
        PillarLight x = EdgeMapTest.walkerAt(63);
        for (int cell = 48; cell < 56; cell++) {
            x.put(cell, GLASS);
        }
        return x;
    }

    private void theGreatestLight() {
        int[] cells = {0, 1, 31, 32, 62, 63};
        for (int cell : cells) {
            PillarLight x = new PillarLight();
            x.lamp(cell, 3, 1);
            due.is("count(12) with a lamp in " + cell, x.count(12), 12);
            due.is("count(13) with a lamp in " + cell, x.count(13), cell);
            x.lamp(cell == 0 ? 63 : 63 - cell, 3, 1);
            due.is("count(13) with two", x.count(13), Math.min(cell, 63 - cell));
            x.step(1);
            due.is("count(12) in the dark", x.count(12), 0);
            due.is("count(13) in the dark", x.count(13), 0);
            due.is("count(11) in the dark", x.count(11), 0);
        }
        PillarLight y = new PillarLight();
        int[] round = {18, 19, 20, 26, 28, 35};
        for (int cell : round) {
            y.lamp(cell, 9, 9);
        }
        due.is("count(13) between lamps", y.count(13), 19);
        due.is("count(12) between lamps", y.count(12), y.cell(19, 1));
    }

    private void countsOfThePadAndTheHistory() {
        PillarLight x = new PillarLight();
        for (int length = 1; length <= 80; length++) {
            x.append('0');
            due.is("count(16)", x.count(16), length);
        }
        x.append('0');
        due.is("count(16) of a full pad", x.count(16), 80);
        for (int change = 1; change <= 6; change++) {
            x.forget();
            due.is("count(17) behind " + change, x.count(17), Math.min(4, change));
        }
        x.step(1);
        x.step(3);
        x.step(3);
        due.is("count(10) of two steps and an error", x.count(10), 2);
    }

    private void litShareFromNoneToAll() {
        due.sentence(19, "Returns the lit cells, as a double, divided by 64.");
        PillarLight x = new PillarLight();
        due.isDouble("litShare() of none", x.litShare(), 0.0);
        x.lamp(27, 1, 1);
        due.isDouble("litShare() of one", x.litShare(), 0.015625);
        x.set(PillarLight.DIM, 2);
        due.isDouble("litShare() of nine", x.litShare(), 0.140625);
        x.takeLamp(0);
        x.lamp(27, 9, 1);
        due.isDouble("litShare() of all", x.litShare(), 1.0);
        x.set(PillarLight.DIM, 3);
        due.isDouble("litShare() of 59", x.litShare(), 0.921875);
        x.step(1);
        due.isDouble("litShare() without fuel", x.litShare(), 0.0);
    }

    private void ifPutTellsWhatPutWouldBring() {
        due.sentence(22, "Tells what another kind of a cell would bring (a lamp in it taken away, if it stops light).");
        int[] cells = {0, 1, 8, 9, 18, 27, 28, 36, 45, 63};
        int[] counts = {4, 5, 7};
        for (int cell : cells) {
            for (int kind = 0; kind <= 3; kind++) {
                for (int what = 0; what <= 2; what++) {
                    PillarLight x = pillarsAndLamps();
                    int told = x.ifPut(cell, kind, what);
                    int put = x.put(cell, kind);
                    due.is("ifPut(" + cell + ", " + kind + ", " + what + ")", told, put < 0 ? put : x.count(counts[what]));
                }
            }
        }
    }

    private static PillarLight pillarsAndLamps() {
        PillarLight x = load(".#....../......=./...~..../......../..#.#.../......../.~....../........");
        x.lamp(9, 2, 9);
        x.lamp(27, 5, 9);
        x.lamp(63, 9, 9);
        x.set(PillarLight.DIM, 4);
        return x;
    }

    private void ifPutTakesTheLampInIt() {
        for (int kind = 0; kind <= 3; kind++) {
            boolean stops = kind == WALL || kind == CURTAIN;
            PillarLight x = new PillarLight();
            x.lamp(63, 1, 9);
            due.is("ifPut(63, " + kind + ", 0)", x.ifPut(63, kind, 0), stops ? 0 : 1);
            due.is("ifPut(63, " + kind + ", 1)", x.ifPut(63, kind, 1), stops ? 4 : 5);
            due.is("ifPut(63, " + kind + ", 2)", x.ifPut(63, kind, 2), kind == WALL || kind == GLASS ? 63 : 64);
            due.is("the lamp is still there", x.cell(63, 6), 0);
            due.is("the kind is as before", x.cell(63, 0), FLOOR);
            due.is("lit as before", x.count(4), 1);
            due.is("remembered as before", x.count(6), 5);
            due.is("states as before", x.count(17), 1);
        }
    }

    private void ifPutAtTheWalker() {
        due.sentence(22, "Returns the number; INVALID_ARGUMENT; NOT_POSSIBLE as for put().");
        for (int what = -1; what <= 3; what++) {
            boolean is = what >= 0 && what <= 2;
            PillarLight x = new PillarLight();
            int[] want = {0, 4, 64};
            due.is("floor at the walker, " + what, x.ifPut(0, FLOOR, what), is ? want[what] : -1);
            due.is("a wall at the walker, " + what, x.ifPut(0, WALL, what), is ? -2 : -1);
            due.is("glass at the walker, " + what, x.ifPut(0, GLASS, what), is ? -2 : -1);
            due.is("a curtain at the walker, " + what, x.ifPut(0, CURTAIN, what), is ? want[what] : -1);
            due.is("a kind above all at the walker, " + what, x.ifPut(0, 4, what), -1);
            due.is("a kind below all at the walker, " + what, x.ifPut(0, -1, what), -1);
            x.step(1);
            due.is("a wall where the walker was, " + what, x.ifPut(0, WALL, what), is ? new int[] {0, 6, 63}[what] : -1);
            due.is("a wall where it is, " + what, x.ifPut(1, WALL, what), is ? -2 : -1);
        }
    }

    private void bestLampAlsoWithSix() {
        due.sentence(23, "Finds the best cell for one more lamp (also if there are 6).");
        PillarLight x = new PillarLight();
        x.set(PillarLight.DIM, 20);
        for (int lamp = 0; lamp < 6; lamp++) {
            due.is("bestLamp(1) with " + lamp, x.bestLamp(1), lamp);
            x.lamp(lamp, 1, 1);
        }
        due.is("bestLamp(1) with 6", x.bestLamp(1), 6);
        due.is("bestLamp(9) with 6", x.bestLamp(9), 9);
        due.is("a lamp more", x.lamp(9, 9, 9), -3);
        due.is("bestLamp(10) with 6", x.bestLamp(10), -1);
        due.is("bestLamp(0) with 6", x.bestLamp(0), -1);
    }

    private void bestLampIsTheLowestOfSeveral() {
        due.sentence(23, "Returns the cell where such a lamp could be set, and with which, with fuel, most cells would be lit, "
                + "of several the lowest; INVALID_ARGUMENT; NOT_FOUND if there is no cell for it.");
        PillarLight x = new PillarLight();
        x.set(PillarLight.DIM, 20);
        due.is("bestLamp(1), none lit anywhere", x.bestLamp(1), 0);
        x.put(0, CURTAIN);
        due.is("bestLamp(1), none lit, not in a curtain", x.bestLamp(1), 1);
        x.put(1, WALL);
        due.is("bestLamp(1), none lit, not in a wall", x.bestLamp(1), 2);
        x.put(2, GLASS);
        due.is("bestLamp(1), none lit, in glass", x.bestLamp(1), 2);
        PillarLight y = new PillarLight();
        y.set(PillarLight.DIM, 1);
        y.lamp(0, 9, 9);
        y.lamp(63, 9, 9);
        due.is("lit", y.count(4), 64);
        for (int strength = 1; strength <= 9; strength++) {
            due.is("bestLamp(" + strength + ") where all is lit", y.bestLamp(strength), 1);
        }
        PillarLight z = new PillarLight();
        z.set(PillarLight.DIM, 4);
        for (int strength = 1; strength <= 2; strength++) {
            due.is("bestLamp(" + strength + ") at DIM 4", z.bestLamp(strength), strength == 1 ? 0 : 9);
        }
    }

    private void bestLampCountsLitCellsThatItDoesNotSee() {
        // The cell 0 alone is lit, by more than DIM or just so, and the cell 2 does not see it.
        for (int dim = 18; dim <= 20; dim++) {
            PillarLight x = new PillarLight();
            x.put(1, WALL);
            x.lamp(0, 5, 9);
            x.set(PillarLight.DIM, dim);
            due.is("lit at DIM " + dim, x.count(4), 1);
            due.is("bestLamp(1) at DIM " + dim, x.bestLamp(1), 2);
        }
    }

    /** Sets the lamp in each cell, and looks whether the best one was told. */
    private void bestLampIsTheBest() {
        for (int strength = 1; strength <= 9; strength += 2) {
            int best = pillarsAndLamps().bestLamp(strength);
            int most = litWith(best, strength);
            for (int cell = 0; cell < 64; cell++) {
                int lit = litWith(cell, strength);
                due.holds("bestLamp(" + strength + ") is " + best + ", not " + cell, cell < best ? lit < most : lit <= most);
            }
        }
    }

    private static int litWith(int cell, int strength) {
        PillarLight x = pillarsAndLamps();
        return x.lamp(cell, strength, 1) < 0 ? -1 : x.count(4);
    }

    private void bestLampWithoutACell() {
        PillarLight x = load(FLOORS.replace('.', '~'));
        due.is("bestLamp(9) among curtains", x.bestLamp(9), -4);
        due.is("bestLamp(0) among curtains", x.bestLamp(0), -1);
        due.is("bestLamp(10) among curtains", x.bestLamp(10), -1);
        x.put(63, FLOOR);
        due.is("bestLamp(9) with one cell", x.bestLamp(9), 63);
        x.lamp(63, 1, 1);
        due.is("bestLamp(9) with a lamp in it", x.bestLamp(9), -4);
        x.fill(0, 0);
        due.is("bestLamp(9) with a lamp without fuel in it", x.bestLamp(9), -4);
        x.takeLamp(0);
        due.is("bestLamp(9) with one cell again", x.bestLamp(9), 63);
        PillarLight y = load("~" + FLOORS.substring(1).replace('.', '#'));
        due.is("bestLamp(1) among walls", y.bestLamp(1), -4);
        y.put(0, FLOOR);
        due.is("bestLamp(1) at the walker", y.bestLamp(1), 0);
        due.is("bestLamp(1) among panes of glass", load("~" + FLOORS.substring(1).replace('.', '=')).bestLamp(1), 1);
    }

    private void allIsDarkNow() {
        due.sentence(24, "Returns the least number of steps of the walker, 0 or more");
        PillarLight x = new PillarLight();
        due.is("darkIn() without lamps", x.darkIn(), 0);
        x.lamp(27, 9, 99);
        due.is("darkIn() with fuel 99", x.darkIn(), 99);
        x.fill(0, 1);
        due.is("darkIn() with fuel 1", x.darkIn(), 1);
        x.fill(0, 0);
        due.is("darkIn() with fuel 0", x.darkIn(), 0);
        x.lamp(0, 1, 99);
        due.is("darkIn() with another", x.darkIn(), 99);
        x.set(PillarLight.DIM, 5);
        due.is("darkIn() where it lights nothing", x.darkIn(), 0);
        x.set(PillarLight.DIM, 4);
        due.is("darkIn() where it lights one cell", x.darkIn(), 99);
    }

    private void allIsDarkBehindSteps() {
        due.sentence(24, "behind which no cell is lit (whatever steps they are).");
        PillarLight x = new PillarLight();
        int[] fuels = {5, 60, 7, 99, 60, 1};
        int[] want = {5, 60, 60, 99, 99, 99};
        for (int lamp = 0; lamp < 6; lamp++) {
            x.lamp(9 * lamp, 1, fuels[lamp]);
            due.is("darkIn() with " + (lamp + 1), x.darkIn(), want[lamp]);
        }
        x.fill(3, 0);
        due.is("darkIn() without the longest", x.darkIn(), 60);
        // Each cell that is lit needs both lamps.
        for (int fuel = 1; fuel <= 3; fuel++) {
            PillarLight y = new PillarLight();
            y.lamp(26, 2, fuel);
            y.lamp(28, 2, 2);
            y.set(PillarLight.DIM, 10);
            due.is("lit", y.count(4), 3);
            due.is("darkIn() with fuel " + fuel + " and 2", y.darkIn(), Math.min(fuel, 2));
        }
        for (int fuel = 0; fuel <= 6; fuel++) {
            PillarLight z = new PillarLight();
            z.lamp(27, 9, 9);
            z.fill(0, fuel);
            int dark = z.darkIn();
            for (int step = 0; step < dark; step++) {
                due.holds("some cell is lit before step " + step, z.count(4) > 0);
                z.step(step % 2 == 0 ? 1 : 3);
            }
            due.is("lit behind " + dark, z.count(4), 0);
            due.is("darkIn() behind " + dark, z.darkIn(), 0);
        }
    }

    private void allIsDarkWhateverStepsTheyAre() {
        PillarLight x = new PillarLight();
        x.lamp(27, 9, 12);
        x.put(1, WALL);
        x.put(8, GLASS);
        due.is("count(7)", x.count(7), 1);
        due.is("darkIn() of a walker who can't step", x.darkIn(), 12);
        PillarLight y = new PillarLight();
        y.lamp(0, 9, 3);
        for (int fuel = 3; fuel > 0; fuel--) {
            due.is("darkIn()", y.darkIn(), fuel);
            due.is("step(0)", y.step(fuel == 2 ? 3 : 1), fuel == 2 ? 0 : 1);
        }
        due.is("darkIn() then", y.darkIn(), 0);
        due.is("states", y.count(17), 4);
    }
}

/** The terms of lamps, promises 3, 4, 5 and 17: a test of each sentence that names an edge. */
public final class EdgeLampTest {
    private static final int FLOOR = 0, WALL = 1, GLASS = 2, CURTAIN = 3;

    private final Due due = new Due("EdgeLampTest");

    public static void main(String[] args) {
        EdgeLampTest test = new EdgeLampTest();
        test.thereAreAtMostSix();
        test.aLaterLampGetsTheNumberBefore();
        test.aLampIsInACellOfItsOwn();
        test.lampsHaveStrengthAndFuel();
        test.eachStepBurnsOneFuel();
        test.onlyAStepBurnsFuel();
        test.lightGrowsWeak();
        test.lightFallsOnPillarsAndNotBehind();
        test.withoutFuelThereIsNoLight();
        test.withoutFuelNoLookTellsOfLight();
        test.eachLightIsRoundedByItself();
        test.lightIsTheSumOfAll();
        test.litIsAtLeastDim();
        test.lampWhereItIsNotPossible();
        test.takeLampTellsTheCell();
        test.fillTellsTheFuelBefore();
        test.lampsAreNumbered();
        test.lampOfTellsOfReach();
        test.lampOfTellsOfNeed();
        test.due.close();
    }

    private static PillarLight sixLamps() {
        PillarLight x = new PillarLight();
        for (int lamp = 0; lamp < 6; lamp++) {
            x.lamp(9 * lamp + 2, lamp + 1, lamp + 1);
        }
        return x;
    }

    private void thereAreAtMostSix() {
        due.sentence(0, "There are at most 6 lamps, numbered from 0 in the order in which they came");
        PillarLight x = new PillarLight();
        for (int lamp = 0; lamp < 6; lamp++) {
            due.is("count(8) before lamp " + lamp, x.count(8), lamp);
            due.is("lamp " + lamp, x.lamp(63 - lamp, 9, 99), lamp);
            due.is("its number", x.cell(63 - lamp, 6), lamp);
        }
        due.is("a lamp more", x.lamp(0, 1, 1), -3);
        due.is("count(8)", x.count(8), 6);
        due.is("no lamp 6", x.lampOf(6, 0), -1);
        due.is("none in 0", x.cell(0, 6), -4);
        x.takeLamp(2);
        due.is("a lamp in place of one", x.lamp(0, 1, 1), 5);
        due.is("a lamp more again", x.lamp(1, 1, 1), -3);
        x.put(0, WALL);
        x.put(63, WALL);
        due.is("a lamp in place of one behind a wall", x.lamp(1, 1, 1), 5);
        x.fill(0, 0);
        due.is("a lamp without fuel counts", x.lamp(2, 1, 1), -3);
        for (int lamp = 5; lamp >= 0; lamp--) {
            x.takeLamp(lamp);
        }
        due.is("the first of all again", x.lamp(2, 1, 1), 0);
    }

    private void aLaterLampGetsTheNumberBefore() {
        due.sentence(0, "(when one is taken away, those with greater numbers get numbers that are 1 less).");
        for (int taken = 0; taken < 6; taken++) {
            PillarLight x = sixLamps();
            due.is("takeLamp(" + taken + ")", x.takeLamp(taken), 9 * taken + 2);
            due.is("lamps then", x.count(8), 5);
            for (int lamp = 0; lamp < 5; lamp++) {
                int was = lamp < taken ? lamp : lamp + 1;
                due.is("cell of " + lamp, x.lampOf(lamp, 0), 9 * was + 2);
                due.is("strength of " + lamp, x.lampOf(lamp, 1), was + 1);
                due.is("fuel of " + lamp, x.lampOf(lamp, 4), was + 1);
                due.is("number of the lamp in " + (9 * was + 2), x.cell(9 * was + 2, 6), lamp);
                due.is("it gives light by its number", x.cell(9 * was + 2, 5) >> lamp & 1, 1);
            }
            due.is("no lamp 5", x.lampOf(5, 0), -1);
            due.is("no bit of lamp 5", x.cell(28, 5) >> 5, 0);
            due.is("none in its cell", x.cell(9 * taken + 2, 6), -4);
        }
    }

    private void aLampIsInACellOfItsOwn() {
        due.sentence(0, "A lamp is in a cell that does not stop light, no two in the same cell");
        int[] cells = {0, 7, 27, 56, 63};
        for (int cell : cells) {
            for (int kind = 0; kind <= 3; kind++) {
                if (cell == 0 && (kind == WALL || kind == GLASS)) {
                    continue;
                }
                PillarLight x = new PillarLight();
                x.put(cell, kind);
                boolean room = kind == FLOOR || kind == GLASS;
                due.is("lamp in " + cell + " of kind " + kind, x.lamp(cell, 1, 1), room ? 0 : -2);
                due.is("again", x.lamp(cell, 2, 2), -2);
                due.is("lamps", x.count(8), room ? 1 : 0);
                due.is("the first one's strength", x.lampOf(0, 1), room ? 1 : -1);
            }
        }
        PillarLight y = new PillarLight();
        y.lamp(9, 1, 1);
        y.fill(0, 0);
        due.is("a lamp where one without fuel is", y.lamp(9, 1, 1), -2);
        y.takeLamp(0);
        due.is("a lamp where one was", y.lamp(9, 1, 1), 0);
    }

    private void lampsHaveStrengthAndFuel() {
        due.sentence(0, "and has a strength, 1 to 9, and fuel, 0 to 99.");
        int[][] all = {{1, 1}, {1, 99}, {9, 1}, {9, 99}, {5, 50}};
        for (int[] pair : all) {
            PillarLight x = new PillarLight();
            due.is("lamp(9, " + pair[0] + ", " + pair[1] + ")", x.lamp(9, pair[0], pair[1]), 0);
            due.is("its strength", x.lampOf(0, 1), pair[0]);
            due.is("its fuel", x.lampOf(0, 4), pair[1]);
            due.is("fill(0, 0)", x.fill(0, 0), pair[1]);
            due.is("its fuel then", x.lampOf(0, 4), 0);
            due.is("its strength then", x.lampOf(0, 1), pair[0]);
        }
    }

    private void eachStepBurnsOneFuel() {
        due.sentence(0, "With each step that the walker makes the fuel of each lamp becomes 1 less, if it is above 0.");
        PillarLight x = sixLamps();
        for (int made = 1; made <= 9; made++) {
            x.step(made % 2 == 0 ? 3 : 1);
            for (int lamp = 0; lamp < 6; lamp++) {
                int want = Math.max(0, lamp + 1 - made);
                due.is("fuel of " + lamp + " behind " + made, x.lampOf(lamp, 4), want);
                due.is("bit of " + lamp + " behind " + made, x.cell(9 * lamp + 2, 5) >> lamp & 1, want > 0 ? 1 : 0);
            }
            due.is("the lamps stay", x.count(8), 6);
        }
        for (int walked = 1; walked <= 8; walked++) {
            PillarLight y = sixLamps();
            MapTest.type(y, "12301230".substring(0, walked));
            due.is("walk()", y.walk(), walked);
            for (int lamp = 0; lamp < 6; lamp++) {
                due.is("fuel of " + lamp, y.lampOf(lamp, 4), Math.max(0, lamp + 1 - walked));
            }
        }
    }

    private void onlyAStepBurnsFuel() {
        PillarLight x = sixLamps();
        x.step(0);
        x.step(3);
        x.step(4);
        x.forget();
        x.set(0, 5);
        x.put(63, WALL);
        x.save();
        x.restore();
        MapTest.type(x, "0111");
        due.is("walk() of no step", x.walk(), 0);
        MapTest.type(x, MapTest.FLOORS);
        x.load();
        for (int lamp = 0; lamp < 6; lamp++) {
            due.is("fuel of " + lamp + " behind no step", x.lampOf(lamp, 4), lamp + 1);
        }
        x.step(1);
        x.undo();
        due.is("fuel behind a step that is undone", x.lampOf(5, 4), 6);
    }

    private void lightGrowsWeak() {
        due.sentence(0, "the light 8 * strength / (2 + d), with d as the square of the difference of rows and the "
                + "square of the difference of columns, together");
        int[] cells = {0, 7, 27, 36, 56, 63};
        for (int from : cells) {
            for (int strength = 1; strength <= 9; strength++) {
                PillarLight x = new PillarLight();
                x.lamp(from, strength, 1);
                for (int to = 0; to < 64; to++) {
                    int rows = from / 8 - to / 8;
                    int columns = from % 8 - to % 8;
                    int want = 8 * strength / (2 + rows * rows + columns * columns);
                    due.is("light of " + to + " by " + strength + " in " + from, x.cell(to, 1), want);
                    due.is("givers of " + to, x.cell(to, 5), want > 0 ? 1 : 0);
                }
            }
        }
    }

    private void lightFallsOnPillarsAndNotBehind() {
        due.sentence(0, "A lamp with fuel gives a cell that its cell sees (also one that stops light)");
        for (int kind = 0; kind <= 3; kind++) {
            boolean stops = kind == WALL || kind == CURTAIN;
            PillarLight x = new PillarLight();
            x.put(29, kind);
            x.lamp(27, 9, 9);
            due.is("light before kind " + kind, x.cell(28, 1), 24);
            due.is("light of kind " + kind, x.cell(29, 1), 12);
            due.is("givers of kind " + kind, x.cell(29, 5), 1);
            due.is("lit by kind " + kind, x.cell(29, 2), 1);
            due.is("light behind kind " + kind, x.cell(30, 1), stops ? 0 : 6);
            due.is("givers behind kind " + kind, x.cell(30, 5), stops ? 0 : 1);
            due.is("light far behind kind " + kind, x.cell(31, 1), stops ? 0 : 4);
        }
        due.sentence(0, "to other cells 0");
        PillarLight y = new PillarLight();
        y.put(19, WALL);
        y.put(26, CURTAIN);
        y.lamp(27, 9, 9);
        due.is("light behind a corner between two pillars", y.cell(18, 1), 0);
        due.is("givers there", y.cell(18, 5), 0);
        due.is("light beside one pillar", y.cell(20, 1), 18);
        due.is("light of the pillars", y.cell(19, 1) + y.cell(26, 1), 48);
    }

    private static PillarLight emptyLamp() {
        PillarLight x = new PillarLight();
        x.lamp(27, 9, 1);
        x.fill(0, 0);
        return x;
    }

    private void withoutFuelThereIsNoLight() {
        due.sentence(0, "a lamp without fuel gives no light.");
        for (int cell = 0; cell < 64; cell++) {
            PillarLight x = emptyLamp();
            due.is("light of " + cell, x.cell(cell, 1), 0);
            due.is("lit " + cell, x.cell(cell, 2), 0);
            due.is("givers of " + cell, x.cell(cell, 5), 0);
            due.is("seen " + cell, x.cell(cell, 3), cell == 0 || cell == 1 || cell == 8 || cell == 9 ? 1 : 0);
            due.is("exposure(" + cell + ", 0)", x.exposure(cell, 0), cell / 8 + cell % 8);
            due.is("exposure(" + cell + ", 1)", x.exposure(cell, 1), cell / 8 + cell % 8);
        }
        PillarLight y = new PillarLight();
        y.lamp(27, 9, 1);
        due.is("lit with fuel 1", y.count(4), 64 - 5);
        y.step(1);
        due.is("lit behind the last fuel", y.count(4), 0);
        due.is("lamp 0 is still there", y.cell(27, 6), 0);
    }

    private void withoutFuelNoLookTellsOfLight() {
        due.is("count(4)", emptyLamp().count(4), 0);
        due.is("count(5)", emptyLamp().count(5), 4);
        due.is("count(11)", emptyLamp().count(11), 0);
        due.is("count(12)", emptyLamp().count(12), 0);
        due.is("count(13)", emptyLamp().count(13), 0);
        due.isDouble("litShare()", emptyLamp().litShare(), 0.0);
        due.is("lampOf(0, 0)", emptyLamp().lampOf(0, 0), 27);
        due.is("lampOf(0, 1)", emptyLamp().lampOf(0, 1), 9);
        due.is("lampOf(0, 2)", emptyLamp().lampOf(0, 2), 0);
        due.is("lampOf(0, 3)", emptyLamp().lampOf(0, 3), 0);
        due.is("lampOf(0, 4)", emptyLamp().lampOf(0, 4), 0);
        due.is("way(9, 1)", emptyLamp().way(9, 1), 1);
        due.is("ifPut(63, 1, 0)", emptyLamp().ifPut(63, WALL, 0), 0);
        due.is("ifPut(63, 1, 1)", emptyLamp().ifPut(63, WALL, 1), 4);
        due.is("bestLamp(9)", emptyLamp().bestLamp(9), 28);
        due.is("bestLamp(1)", emptyLamp().bestLamp(1), 0);
        due.is("darkIn()", emptyLamp().darkIn(), 0);
        PillarLight x = emptyLamp();
        x.set(0, 1);
        due.is("remembered since the lamp came", x.count(6), 64 - 5);
        x.forget();
        due.is("remembered behind forget", x.count(6), 4);
        PillarLight y = new PillarLight();
        y.lamp(0, 1, 1);
        y.lamp(7, 1, 1);
        y.fill(0, 0);
        due.is("the brightest cell by the other lamp", y.count(13), 7);
        due.is("the sum by the other lamp", y.count(11), 4 + 2 + 2 + 2 + 1 + 1 + 1 + 1);
        due.is("the other lamp is needed", y.lampOf(1, 3), 1);
        due.is("bestLamp(1) beside the other lamp", y.bestLamp(1), 14);
    }

    private void eachLightIsRoundedByItself() {
        due.sentence(0, "Divisions are rounded down.");
        PillarLight x = new PillarLight();
        x.lamp(9, 1, 9);
        x.lamp(45, 1, 9);
        due.is("light of two that are below 1 each", x.cell(27, 1), 0);
        due.is("givers of it", x.cell(27, 5), 0);
        PillarLight y = new PillarLight();
        y.lamp(26, 5, 9);
        y.lamp(28, 5, 9);
        due.is("light of 13 and 1 / 3, twice", y.cell(27, 1), 26);
        PillarLight z = new PillarLight();
        z.lamp(0, 9, 9);
        due.is("light of 72 / 100", z.cell(63, 1), 0);
        due.is("light of 72 / 87", z.cell(62, 1), 0);
        due.is("light of 72 / 76", z.cell(61, 1), 0);
        due.is("light of 72 / 74", z.cell(54, 1), 0);
        due.is("light of 72 / 63", z.cell(53, 1), 1);
        due.is("cells with light", z.lampOf(0, 2), 64 - 6);
    }

    private void lightIsTheSumOfAll() {
        due.sentence(0, "The light of a cell is the sum of what all lamps give.");
        PillarLight x = new PillarLight();
        int[] cells = {18, 19, 20, 26, 28, 34};
        int sum = 0;
        for (int lamp = 0; lamp < 6; lamp++) {
            x.lamp(cells[lamp], 9, 9);
            boolean beside = lamp == 1 || lamp == 3 || lamp == 4;
            sum += beside ? 24 : 18;
            due.is("light of 27 by " + (lamp + 1), x.cell(27, 1), sum);
            due.is("its givers", x.cell(27, 5), (2 << lamp) - 1);
        }
        x.fill(1, 0);
        due.is("light without one", x.cell(27, 1), sum - 24);
        due.is("givers without one", x.cell(27, 5), 63 - 2);
        x.put(28, WALL);
        due.is("light without two", x.cell(27, 1), sum - 48);
        due.is("givers without two", x.cell(27, 5), 31 - 2);
    }

    private void litIsAtLeastDim() {
        due.sentence(0, "A cell is lit, if its light is at least DIM.");
        for (int dim = 1; dim <= 20; dim++) {
            PillarLight x = new PillarLight();
            x.lamp(0, 4, 99);
            x.set(PillarLight.DIM, dim);
            int lit = 0;
            for (int cell = 0; cell < 64; cell++) {
                int d = cell / 8 * (cell / 8) + cell % 8 * (cell % 8);
                int want = 32 / (2 + d) >= dim ? 1 : 0;
                lit += want;
                due.is("cell(" + cell + ", 2) at DIM " + dim, x.cell(cell, 2), want);
            }
            due.is("count(4) at DIM " + dim, x.count(4), lit);
        }
        PillarLight y = new PillarLight();
        y.lamp(27, 5, 9);
        y.set(PillarLight.DIM, 20);
        due.is("light 20 at DIM 20", y.cell(27, 2), 1);
        PillarLight z = new PillarLight();
        z.lamp(27, 1, 9);
        z.set(PillarLight.DIM, 1);
        due.is("light 1 at DIM 1", z.cell(29, 2), 1);
        due.is("light 0 at DIM 1", z.cell(30, 2), 0);
        z.takeLamp(0);
        due.is("no light at DIM 1", z.count(4), 0);
    }

    private void lampWhereItIsNotPossible() {
        due.sentence(3, "Returns its number; INVALID_ARGUMENT; NOT_POSSIBLE if the cell stops light, or has a lamp; "
                + "LIMIT_REACHED if there are 6.");
        PillarLight x = new PillarLight();
        x.put(60, WALL);
        x.put(61, CURTAIN);
        for (int lamp = 0; lamp < 5; lamp++) {
            x.lamp(lamp, 1, 1);
        }
        due.is("with 5, in a wall", x.lamp(60, 1, 1), -2);
        due.is("with 5, in a lamp's cell", x.lamp(4, 1, 1), -2);
        due.is("with 5, of fuel 0", x.lamp(5, 1, 0), -1);
        due.is("the sixth", x.lamp(5, 1, 1), 5);
        due.is("with 6", x.lamp(6, 1, 1), -3);
        due.is("with 6, in a wall", x.lamp(60, 1, 1), -2);
        due.is("with 6, in a curtain", x.lamp(61, 1, 1), -2);
        due.is("with 6, in a lamp's cell", x.lamp(5, 1, 1), -2);
        due.is("with 6, of strength 0", x.lamp(6, 0, 1), -1);
        due.is("with 6, of strength 10 in a wall", x.lamp(60, 10, 1), -1);
        due.is("with 6, of fuel 100 in a lamp's cell", x.lamp(5, 1, 100), -1);
        due.is("with 6, off the map", x.lamp(64, 1, 1), -1);
        due.is("lamps", x.count(8), 6);
    }

    private void takeLampTellsTheCell() {
        due.sentence(4, "Returns the cell where it was; INVALID_ARGUMENT.");
        int[] cells = {0, 7, 56, 63};
        for (int cell : cells) {
            PillarLight x = new PillarLight();
            x.lamp(cell, 9, 9);
            due.is("takeLamp(1)", x.takeLamp(1), -1);
            due.is("takeLamp(0)", x.takeLamp(0), cell);
            due.is("takeLamp(0) again", x.takeLamp(0), -1);
            due.is("lamps", x.count(8), 0);
            due.is("light", x.cell(cell, 1), 0);
        }
    }

    private void fillTellsTheFuelBefore() {
        due.sentence(5, "Returns the fuel before; INVALID_ARGUMENT.");
        PillarLight x = new PillarLight();
        x.lamp(0, 1, 1);
        x.lamp(1, 1, 2);
        due.is("fill(0, 99)", x.fill(0, 99), 1);
        due.is("fill(0, 0)", x.fill(0, 0), 99);
        due.is("fill(0, 0) again", x.fill(0, 0), 0);
        due.is("fill(0, 100)", x.fill(0, 100), -1);
        due.is("fill(0, -1)", x.fill(0, -1), -1);
        due.is("fill(2, 1)", x.fill(2, 1), -1);
        due.is("fuel of 0", x.lampOf(0, 4), 0);
        due.is("fuel of 1", x.lampOf(1, 4), 2);
        due.is("fill(0, 7) of an empty one", x.fill(0, 7), 0);
        due.is("light of it", x.cell(0, 5), 3);
    }

    private void lampsAreNumbered() {
        due.sentence(17, "`lamp`: its number");
        for (int lamps = 0; lamps <= 6; lamps++) {
            PillarLight x = new PillarLight();
            for (int lamp = 0; lamp < lamps; lamp++) {
                x.lamp(lamp + 20, 2, 3);
            }
            for (int lamp = -2; lamp <= 8; lamp++) {
                boolean is = lamp >= 0 && lamp < lamps;
                due.is("lampOf(" + lamp + ", 0) of " + lamps, x.lampOf(lamp, 0), is ? lamp + 20 : -1);
                due.is("lampOf(" + lamp + ", 4) of " + lamps, x.lampOf(lamp, 4), is ? 3 : -1);
                due.is("fill(" + lamp + ", 3) of " + lamps, x.fill(lamp, 3), is ? 3 : -1);
            }
            for (int lamp = -2; lamp <= 8; lamp++) {
                if (lamp < 0 || lamp >= lamps) {
                    due.is("takeLamp(" + lamp + ") of " + lamps, x.takeLamp(lamp), -1);
                }
            }
            due.is("lamps", x.count(8), lamps);
        }
    }

    private void lampOfTellsOfReach() {
        due.sentence(17, "2: how many cells it gives light above 0");
        PillarLight x = new PillarLight();
        x.lamp(27, 1, 1);
        due.is("of strength 1", x.lampOf(0, 2), 21);
        x.put(28, WALL);
        due.is("before a wall", x.lampOf(0, 2), 21 - 3);
        x.put(19, WALL);
        x.put(26, WALL);
        x.put(35, WALL);
        due.is("between four walls", x.lampOf(0, 2), 5);
        x.lamp(63, 1, 1);
        due.is("in the corner", x.lampOf(1, 2), 8);
        PillarLight y = new PillarLight();
        y.lamp(27, 9, 1);
        due.is("of strength 9", y.lampOf(0, 2), 64);
        y.set(0, 20);
        due.is("at another DIM", y.lampOf(0, 2), 64);
        y.step(1);
        due.is("without fuel", y.lampOf(0, 2), 0);
    }

    private void lampOfTellsOfNeed() {
        due.sentence(17, "3: how many cells would not be lit without it, that are lit now");
        PillarLight x = new PillarLight();
        x.set(0, 4);
        x.lamp(0, 1, 9);
        due.is("alone", x.lampOf(0, 3), 1);
        x.lamp(1, 9, 9);
        due.is("where another lights all", x.lampOf(0, 3), 0);
        x.fill(1, 0);
        due.is("where the other has no fuel", x.lampOf(0, 3), 1);
        due.is("the other", x.lampOf(1, 3), 0);
        PillarLight y = new PillarLight();
        y.set(0, 5);
        y.lamp(26, 2, 9);
        y.lamp(28, 2, 9);
        due.is("light of 27", y.cell(27, 1), 10);
        due.is("27 is lit by either", y.lampOf(0, 3), y.lampOf(1, 3));
        int before = y.count(4);
        int needed = y.lampOf(0, 3);
        y.takeLamp(0);
        due.is("lit without it", y.count(4), before - needed);
        PillarLight z = new PillarLight();
        z.set(0, 20);
        z.lamp(27, 4, 9);
        due.is("where nothing is lit", z.lampOf(0, 3), 0);
        z.lamp(28, 4, 9);
        due.is("where both are needed, of the first", z.lampOf(0, 3), 2);
        due.is("where both are needed, of the other", z.lampOf(1, 3), 2);
    }
}

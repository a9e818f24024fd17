/** Promises 22, 23 and 24: ifPut, bestLamp, darkIn. */
public final class WouldBeTest {
    public static void main(String[] args) {
        Due due = new Due("WouldBeTest");
        ifPutTells(due);
        ifPutWrongInputs(due);
        bestLamps(due);
        bestLampsAmongPillars(due);
        bestLampsBesideLitCells(due);
        darkIns(due);
        due.close();
    }

    private static void ifPutTells(Due due) {
        PillarLight x = new PillarLight();
        x.lamp(9, 1, 5);
        x.set(0, 2);
        due.is("lit", x.count(4), 9);
        due.is("a wall on the lamp, lit", x.ifPut(9, 1, 0), 0);
        due.is("a curtain on the lamp, lit", x.ifPut(9, 3, 0), 0);
        due.is("glass on the lamp, lit", x.ifPut(9, 2, 0), 9);
        due.is("a wall beside the lamp, lit", x.ifPut(10, 1, 0), 9);
        due.is("seen", x.count(5), 9);
        due.is("a wall beside the lamp, seen", x.ifPut(10, 1, 1), 9);
        due.is("a wall on the lamp, seen", x.ifPut(9, 1, 1), 4);
        due.is("a curtain at the walker, seen", x.ifPut(0, 3, 1), 9);
        due.is("a curtain at the walker, lit", x.ifPut(0, 3, 0), 9);
        x.put(1, 2);
        due.is("reached", x.count(7), 63);
        due.is("glass, reached", x.ifPut(8, 2, 2), 1);
        due.is("a wall, reached", x.ifPut(8, 1, 2), 1);
        due.is("a curtain, reached", x.ifPut(8, 3, 2), 63);
        due.is("a floor in place of glass, reached", x.ifPut(1, 0, 2), 64);
        due.is("the map is as it was", x.cell(8, 0), 0);
        due.is("the lamp is as it was", x.count(8), 1);
        due.is("states", x.count(17), 3);
    }

    private static void ifPutWrongInputs(Due due) {
        PillarLight x = new PillarLight();
        int[][] wrong = {{-1, 0, 0}, {64, 0, 0}, {3, -1, 0}, {3, 4, 0}, {3, 0, -1}, {3, 0, 3}, {0, 1, 3}, {0, 4, 0}};
        for (int[] all : wrong) {
            due.is("ifPut(" + all[0] + ", " + all[1] + ", " + all[2] + ")", x.ifPut(all[0], all[1], all[2]), -1);
        }
        for (int what = 0; what <= 2; what++) {
            due.is("a wall at the walker", x.ifPut(0, 1, what), -2);
            due.is("glass at the walker", x.ifPut(0, 2, what), -2);
        }
    }

    private static void bestLamps(Due due) {
        PillarLight x = new PillarLight();
        due.is("bestLamp(0)", x.bestLamp(0), -1);
        due.is("bestLamp(10)", x.bestLamp(10), -1);
        due.is("bestLamp(MIN)", x.bestLamp(Integer.MIN_VALUE), -1);
        due.is("bestLamp(9)", x.bestLamp(9), 27);
        due.is("bestLamp(1), one cell anywhere", x.bestLamp(1), 0);
        x.set(0, 2);
        due.is("bestLamp(1), nine cells", x.bestLamp(1), 9);
        x.set(0, 20);
        due.is("bestLamp(9), five cells", x.bestLamp(9), 9);
        due.is("bestLamp(1), none", x.bestLamp(1), 0);
        x.lamp(0, 1, 1);
        due.is("bestLamp(1) beside a lamp", x.bestLamp(1), 1);
        x.fill(0, 0);
        due.is("bestLamp(1) beside one without fuel", x.bestLamp(1), 1);
        for (int cell = 1; cell <= 5; cell++) {
            x.lamp(cell, 1, 1);
        }
        due.is("bestLamp(1) with 6 lamps", x.bestLamp(1), 6);
        x.put(6, 1);
        x.put(7, 3);
        x.put(8, 2);
        due.is("bestLamp(1) behind a wall and a curtain, in glass", x.bestLamp(1), 8);
    }

    private static void bestLampsAmongPillars(Due due) {
        PillarLight x = new PillarLight();
        MapTest.type(x, "~~~~~~~~/########/~~~~~~~~/########/~~~~~~~~/########/########/########");
        due.is("load()", x.load(), 64);
        due.is("bestLamp(9) without room", x.bestLamp(9), -4);
        due.is("bestLamp(0) without room", x.bestLamp(0), -1);
        x.put(63, 2);
        due.is("bestLamp(9) with room", x.bestLamp(9), 63);
        x.lamp(63, 9, 9);
        due.is("bestLamp(9) with a lamp in it", x.bestLamp(9), -4);
        PillarLight y = new PillarLight();
        y.set(0, 4);
        y.lamp(0, 1, 9);
        due.is("bestLamp(1) where the light is added", y.bestLamp(1), 1);
        y.set(0, 6);
        due.is("bestLamp(1) where two lamps light two cells", y.bestLamp(1), 1);
        y.set(0, 7);
        due.is("bestLamp(1) where nothing is lit", y.bestLamp(1), 1);
        y.set(0, 5);
        y.takeLamp(0);
        y.lamp(63, 1, 9);
        due.is("bestLamp(1) beside a far lamp", y.bestLamp(1), 46);
    }

    private static void bestLampsBesideLitCells(Due due) {
        PillarLight x = new PillarLight();
        x.set(0, 4);
        x.lamp(18, 1, 9);
        due.is("just lit cells beside a lamp", x.bestLamp(1), 10);
        x.set(0, 2);
        due.is("lit", x.count(4), 9);
        int best = x.bestLamp(1);
        x.lamp(best, 1, 9);
        int most = x.count(4);
        x.undo();
        for (int cell = 0; cell < 64; cell++) {
            if (x.lamp(cell, 1, 9) >= 0) {
                due.holds("no cell is better than " + best + ", and no lower one as good: " + cell,
                        x.count(4) < most || x.count(4) == most && cell >= best);
                x.undo();
            }
        }
    }

    private static void darkIns(Due due) {
        PillarLight x = new PillarLight();
        due.is("darkIn() without lamps", x.darkIn(), 0);
        x.lamp(0, 9, 5);
        due.is("darkIn()", x.darkIn(), 5);
        x.lamp(63, 9, 99);
        due.is("darkIn() with fuel 99", x.darkIn(), 99);
        x.step(1);
        due.is("darkIn() behind a step", x.darkIn(), 98);
        x.fill(1, 0);
        due.is("darkIn() behind fill", x.darkIn(), 4);
        PillarLight y = new PillarLight();
        y.lamp(27, 2, 5);
        y.lamp(28, 2, 9);
        y.set(0, 10);
        due.is("darkIn() where both are needed", y.darkIn(), 5);
        y.set(0, 8);
        due.is("darkIn() where one is enough", y.darkIn(), 9);
        y.set(0, 14);
        due.is("darkIn() where all is dark with fuel", y.darkIn(), 0);
        PillarLight z = new PillarLight();
        for (int lamp = 0; lamp < 6; lamp++) {
            z.lamp(20 + lamp, 9, 60 - 7 * lamp);
        }
        due.is("darkIn() with 6 lamps", z.darkIn(), 60);
        z.put(1, 1);
        z.put(8, 1);
        due.is("darkIn() of a walker who can't step", z.darkIn(), 60);
    }
}

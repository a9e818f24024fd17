/** Promises 20 and 21: exposure, way. */
public final class WaysTest {
    public static void main(String[] args) {
        Due due = new Due("WaysTest");
        inTheDark(due);
        roundALamp(due);
        noWay(due);
        throughAGate(due);
        firstOfAllCalls(due);
        wrongInputs(due);
        due.close();
    }

    private static void exposure(Due due, PillarLight x, int cell, int want) {
        due.is("exposure(" + cell + ", 0)", x.exposure(cell, 0), want);
        due.is("exposure(" + cell + ", 1)", x.exposure(cell, 1), want);
    }

    private static void way(Due due, PillarLight x, int cell, int... want) {
        for (int index = 0; index < want.length; index++) {
            due.is("way(" + cell + ", " + index + ")", x.way(cell, index), want[index]);
        }
        due.is("way(" + cell + ", " + want.length + ")", x.way(cell, want.length), -4);
    }

    private static void inTheDark(Due due) {
        PillarLight x = new PillarLight();
        for (int cell = 0; cell < 64; cell++) {
            exposure(due, x, cell, cell / 8 + cell % 8);
        }
        way(due, x, 0, 0);
        way(due, x, 18, 0, 1, 2, 10, 18);
        x.step(1);
        x.step(1);
        x.step(2);
        x.step(2);
        way(due, x, 0, 18, 10, 2, 1, 0);
        way(due, x, 32, 18, 26, 34, 33, 32);
        way(due, x, 4, 18, 10, 2, 3, 4);
        exposure(due, x, 63, 10);
    }

    private static void roundALamp(Due due) {
        PillarLight x = new PillarLight();
        x.lamp(1, 9, 9);
        exposure(due, x, 0, 0);
        exposure(due, x, 1, 37);
        exposure(due, x, 8, 19);
        exposure(due, x, 9, 19 + 25);
        way(due, x, 9, 0, 8, 9);
        x.fill(0, 0);
        exposure(due, x, 9, 2);
        way(due, x, 9, 0, 1, 9);
    }

    private static void noWay(Due due) {
        PillarLight x = new PillarLight();
        x.put(9, 1);
        x.put(27, 2);
        x.put(36, 3);
        exposure(due, x, 9, -4);
        exposure(due, x, 27, -4);
        exposure(due, x, 36, 8);
        due.is("way(9, 0)", x.way(9, 0), -4);
        due.is("way(27, 0)", x.way(27, 0), -4);
        due.is("way(36, 8)", x.way(36, 8), 36);
        x.put(1, 2);
        x.put(8, 1);
        exposure(due, x, 63, -4);
        exposure(due, x, 0, 0);
        due.is("way(63, 0)", x.way(63, 0), -4);
        due.is("way(0, 0)", x.way(0, 0), 0);
        due.is("reached", x.count(7), 1);
    }

    private static void throughAGate(Due due) {
        PillarLight x = new PillarLight();
        for (int row = 0; row < 7; row++) {
            x.put(8 * row + 1, 1);
        }
        exposure(due, x, 2, 7 + 2 + 7);
        due.is("way(2, 16)", x.way(2, 16), 2);
        due.is("way(2, 8)", x.way(2, 8), 57);
        due.is("reached", x.count(7), 57);
        x.lamp(57, 9, 9);
        exposure(due, x, 56, 7 + lights(x, 8, 16, 24, 32, 40, 48, 56));
        exposure(due, x, 57, 8 + lights(x, 8, 16, 24, 32, 40, 48, 56, 57));
    }

    private static void firstOfAllCalls(Due due) {
        for (int way = 0; way <= 1; way++) {
            PillarLight x = new PillarLight();
            due.is("exposure(63, " + way + ") first", x.exposure(63, way), 14);
            x.step(2);
            due.is("exposure(63, " + way + ") then", x.exposure(63, way), 13);
            x.lamp(63, 1, 1);
            due.is("exposure(63, " + way + ") to a lamp", x.exposure(63, way), 13 + 1 + 2 + 4);
            x.put(0, 1);
            x.put(9, 1);
            x.put(16, 2);
            due.is("exposure(63, " + way + ") without a way", x.exposure(63, way), -4);
            due.is("reached", x.count(7), 1);
        }
        PillarLight y = new PillarLight();
        y.lamp(1, 1, 1);
        due.is("way(9, 1) first", y.way(9, 1), 8);
        due.is("way(1, 1) then", y.way(1, 1), 1);
        y.put(1, 1);
        due.is("way(2, 1) round a wall", y.way(2, 1), 8);
        due.is("way(2, 3) round a wall", y.way(2, 3), 10);
    }

    private static int lights(PillarLight x, int... cells) {
        int sum = 0;
        for (int cell : cells) {
            sum += x.cell(cell, 1);
        }
        return sum;
    }

    private static void wrongInputs(Due due) {
        PillarLight x = new PillarLight();
        int[][] wrong = {{-1, 0}, {64, 0}, {0, -1}, {0, 2}, {Integer.MIN_VALUE, 0}, {0, Integer.MAX_VALUE}};
        for (int[] pair : wrong) {
            due.is("exposure(" + pair[0] + ", " + pair[1] + ")", x.exposure(pair[0], pair[1]), -1);
        }
        due.is("way(-1, 0)", x.way(-1, 0), -1);
        due.is("way(64, 0)", x.way(64, 0), -1);
        due.is("way(5, -1)", x.way(5, -1), -1);
        due.is("way(5, MIN)", x.way(5, Integer.MIN_VALUE), -1);
        due.is("way(5, MAX)", x.way(5, Integer.MAX_VALUE), -4);
        due.is("way(5, 64)", x.way(5, 64), -4);
        x.put(5, 1);
        due.is("way(5, -1) to a wall", x.way(5, -1), -1);
    }
}

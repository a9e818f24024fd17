/** Promises 15 and 16: sees, stops; and how many cells a cell sees. */
public final class SightTest {
    public static void main(String[] args) {
        Due due = new Due("SightTest");
        emptyMap(due);
        endsDoNotMatter(due);
        insides(due);
        corners(due);
        cornersOfTheMap(due);
        steepCorners(due);
        bothWaysAndBack(due);
        wrongInputs(due);
        due.close();
    }

    private static void sees(Due due, PillarLight x, int from, int to, int want) {
        for (int way = 0; way <= 1; way++) {
            due.is("sees(" + from + ", " + to + ", " + way + ")", x.sees(from, to, way), want);
            due.is("sees(" + to + ", " + from + ", " + way + ")", x.sees(to, from, way), want);
        }
    }

    private static void emptyMap(Due due) {
        PillarLight x = new PillarLight();
        for (int cell = 0; cell < 64; cell++) {
            due.is("cell(" + cell + ", 7)", x.cell(cell, 7), 64);
        }
        sees(due, x, 0, 63, 1);
        due.is("stops(0, 63)", x.stops(0, 63), -4);
        due.is("stops(5, 5)", x.stops(5, 5), -4);
    }

    private static void endsDoNotMatter(Due due) {
        PillarLight x = new PillarLight();
        x.put(1, 1);
        sees(due, x, 0, 1, 1);
        sees(due, x, 1, 1, 1);
        sees(due, x, 1, 2, 1);
        due.is("stops(0, 1)", x.stops(0, 1), -4);
        sees(due, x, 0, 2, 0);
        due.is("stops(0, 2)", x.stops(0, 2), 1);
        due.is("stops(7, 0)", x.stops(7, 0), 1);
        due.is("cell(0, 7)", x.cell(0, 7), 64 - 27);
        x.put(4, 3);
        due.is("stops(0, 7)", x.stops(0, 7), 1);
        due.is("stops(7, 0)", x.stops(7, 0), 4);
        sees(due, x, 1, 4, 1);
        x.put(1, 2);
        due.is("stops(0, 7) through glass", x.stops(0, 7), 4);
        sees(due, x, 0, 3, 1);
        x.put(40, 1);
        due.is("stops(56, 0) upright", x.stops(56, 0), 40);
        sees(due, x, 56, 0, 0);
        sees(due, x, 56, 48, 1);
    }

    private static void insides(Due due) {
        PillarLight x = new PillarLight();
        x.put(8, 1);
        x.put(2, 1);
        sees(due, x, 0, 10, 1);
        due.is("stops(0, 10)", x.stops(0, 10), -4);
        x.put(1, 1);
        sees(due, x, 0, 10, 0);
        due.is("stops(0, 10)", x.stops(0, 10), 1);
        x.put(9, 3);
        due.is("stops(0, 10)", x.stops(0, 10), 1);
        due.is("stops(10, 0)", x.stops(10, 0), 9);
        x.put(1, 0);
        sees(due, x, 0, 10, 0);
        due.is("stops(0, 10)", x.stops(0, 10), 9);
    }

    private static void corners(Due due) {
        PillarLight x = new PillarLight();
        x.put(6, 1);
        sees(due, x, 7, 14, 1);
        x.put(15, 3);
        sees(due, x, 7, 14, 0);
        sees(due, x, 7, 56, 0);
        sees(due, x, 14, 56, 1);
        sees(due, x, 6, 15, 1);
        due.is("stops(7, 56)", x.stops(7, 56), -4);
        x.put(35, 1);
        due.is("stops(7, 56) behind a corner", x.stops(7, 56), 35);
        due.is("stops(56, 7)", x.stops(56, 7), 35);
        x.put(35, 0);
        x.put(15, 2);
        sees(due, x, 7, 56, 1);
        x.put(48, 1);
        sees(due, x, 7, 56, 1);
        x.put(57, 1);
        sees(due, x, 7, 56, 0);
        sees(due, x, 7, 49, 1);
    }

    private static void cornersOfTheMap(Due due) {
        int[][] all = {{0, 9, 1, 8}, {7, 14, 6, 15}, {56, 49, 48, 57}, {63, 54, 62, 55}};
        for (int[] corner : all) {
            PillarLight x = new PillarLight();
            x.put(corner[0], 3);
            sees(due, x, corner[2], corner[3], 1);
            x.put(corner[1], 3);
            sees(due, x, corner[2], corner[3], 0);
            due.is("stops(" + corner[2] + ", " + corner[3] + ")", x.stops(corner[2], corner[3]), -4);
            x.put(corner[0], 0);
            sees(due, x, corner[2], corner[3], 1);
        }
    }

    private static void steepCorners(Due due) {
        PillarLight x = new PillarLight();
        x.put(2, 1);
        sees(due, x, 0, 11, 1);
        sees(due, x, 0, 22, 1);
        x.put(9, 3);
        sees(due, x, 0, 11, 0);
        sees(due, x, 0, 22, 0);
        due.is("stops(0, 11)", x.stops(0, 11), -4);
        x.put(9, 2);
        sees(due, x, 0, 22, 1);
        x.put(13, 1);
        x.put(20, 1);
        sees(due, x, 0, 22, 0);
        sees(due, x, 0, 11, 1);
        due.is("stops(22, 0)", x.stops(22, 0), -4);
        PillarLight y = new PillarLight();
        y.put(55, 1);
        y.put(46, 1);
        sees(due, y, 63, 38, 0);
        y.put(46, 0);
        sees(due, y, 63, 38, 0);
        due.is("stops(63, 38)", y.stops(63, 38), 55);
        y.put(55, 0);
        y.put(54, 1);
        y.put(47, 1);
        sees(due, y, 63, 38, 0);
        due.is("stops(63, 38)", y.stops(63, 38), -4);
        y.put(47, 2);
        sees(due, y, 63, 38, 1);
    }

    private static void bothWaysAndBack(Due due) {
        int[] pillars = {10, 13, 17, 22, 27, 28, 33, 38, 43, 44, 50, 53};
        for (int from = 0; from < 64; from++) {
            PillarLight x = new PillarLight();
            for (int i = 0; i < pillars.length; i++) {
                x.put(pillars[i], i % 2 == 0 ? 1 : 3);
            }
            int seen = 0;
            for (int to = 0; to < 64; to++) {
                int along = x.sees(from, to, 0);
                seen += along;
                due.is("sees(" + from + ", " + to + ", 1)", x.sees(from, to, 1), along);
                due.is("sees(" + to + ", " + from + ", 0)", x.sees(to, from, 0), along);
                due.holds("a line that is stopped is not free", along == 0 || x.stops(from, to) == -4);
            }
            due.is("cell(" + from + ", 7)", x.cell(from, 7), seen);
        }
    }

    private static void wrongInputs(Due due) {
        PillarLight x = new PillarLight();
        int[][] wrong = {{-1, 0, 0}, {64, 0, 0}, {0, -1, 1}, {0, 64, 1}, {0, 0, -1}, {0, 0, 2},
            {Integer.MIN_VALUE, 0, 0}, {0, Integer.MAX_VALUE, 1}};
        for (int[] all : wrong) {
            due.is("sees(" + all[0] + ", " + all[1] + ", " + all[2] + ")", x.sees(all[0], all[1], all[2]), -1);
        }
        due.is("stops(-1, 0)", x.stops(-1, 0), -1);
        due.is("stops(64, 0)", x.stops(64, 0), -1);
        due.is("stops(0, -1)", x.stops(0, -1), -1);
        due.is("stops(0, 64)", x.stops(0, 64), -1);
    }
}

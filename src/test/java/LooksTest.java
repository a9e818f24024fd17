/** Promises 14, 18 and 19: cell, count, litShare; and that looks change nothing. */
public final class LooksTest {
    public static void main(String[] args) {
        Due due = new Due("LooksTest");
        cells(due);
        counts(due);
        litShares(due);
        looksTellOfNow(due);
        wrongInputs(due);
        looksChangeNothing(due);
        due.close();
    }

    private static void cells(Due due) {
        PillarLight x = new PillarLight();
        x.put(9, 2);
        x.put(18, 1);
        x.lamp(9, 1, 9);
        x.lamp(12, 1, 9);
        x.lamp(2, 1, 9);
        int[] ofGlass = {2, 4 + 2, 1, 1, 1, 5, 0};
        for (int what = 0; what <= 6; what++) {
            due.is("cell(9, " + what + ")", x.cell(9, what), ofGlass[what]);
        }
        due.is("light of the wall", x.cell(18, 1), 2 + 1 + 1);
        due.is("the wall is lit", x.cell(18, 2), 1);
        due.is("givers of the wall", x.cell(18, 5), 7);
        due.is("the wall is seen", x.cell(18, 3), 1);
        due.is("light beside the wall", x.cell(27, 1), 1);
        due.is("it is not lit", x.cell(27, 2), 0);
        due.is("it is not seen", x.cell(27, 3), 0);
        due.is("it is not remembered", x.cell(27, 4), 0);
        due.is("lamp 1", x.cell(12, 6), 1);
        due.is("light of 11", x.cell(11, 1), 1 + 2 + 2);
        due.is("givers of 11", x.cell(11, 5), 7);
        due.is("light of 20", x.cell(20, 1), 2);
        due.is("a dim cell is not lit", x.cell(20, 2), 0);
        due.is("givers of 20", x.cell(20, 5), 2);
        due.is("no lamp in 20", x.cell(20, 6), -4);
    }

    private static void counts(Due due) {
        PillarLight x = new PillarLight();
        x.put(63, 1);
        x.put(62, 2);
        x.put(61, 2);
        x.put(53, 3);
        x.put(55, 1);
        x.put(46, 1);
        x.step(2);
        x.lamp(27, 1, 9);
        x.lamp(30, 1, 9);
        x.set(1, 0);
        x.append(40);
        int[] all = {58, 3, 2, 1, 8, 9, 14, 59, 2, 8, 1, 0, 4, 27, 3, 0, 1, 4};
        for (int what = 0; what <= 17; what++) {
            if (what != 11) {
                due.is("count(" + what + ")", x.count(what), all[what]);
            }
        }
        int sum = 0;
        for (int cell = 0; cell < 64; cell++) {
            sum += x.cell(cell, 1);
        }
        due.is("count(11)", x.count(11), sum);
        due.holds("there is light", sum > 40);
        x.lamp(63 - 6, 9, 9);
        due.is("the greatest light", x.count(12), 36);
        due.is("the cell with it", x.count(13), 57);
    }

    private static void litShares(Due due) {
        PillarLight x = new PillarLight();
        due.isDouble("litShare()", x.litShare(), 0.0);
        x.lamp(27, 1, 1);
        due.isDouble("litShare()", x.litShare(), 1 / 64.0);
        x.set(0, 1);
        due.isDouble("litShare()", x.litShare(), 21 / 64.0);
        x.fill(0, 0);
        due.isDouble("litShare()", x.litShare(), 0.0);
        x.takeLamp(0);
        x.lamp(27, 9, 9);
        due.isDouble("litShare()", x.litShare(), 1.0);
    }

    /** What was told of other states, by calls before, must not be left in any look. */
    private static void looksTellOfNow(Due due) {
        for (int before = 0; before < 5; before++) {
            for (int look = 0; look < 14; look++) {
                PillarLight x = new PillarLight();
                x.set(0, 2);
                x.lamp(27, 1, 1);
                disturb(x, before);
                lookAt(due, x, look, "behind " + before + ": ");
            }
        }
    }

    private static void disturb(PillarLight x, int before) {
        switch (before) {
            case 0:
                x.lamp(60, 9, 9);
                x.undo();
                break;
            case 1:
                x.ifPut(27, 1, 0);
                break;
            case 2:
                x.darkIn();
                break;
            case 3:
                x.exposure(63, 0);
                x.way(63, 2);
                break;
            default:
                x.save();
                x.step(1);
                x.restore();
                break;
        }
    }

    private static void lookAt(Due due, PillarLight x, int look, String behind) {
        switch (look) {
            case 0: due.is(behind + "count(11)", x.count(11), 4 + 8 + 8 + 4 + 8); break;
            case 1: due.is(behind + "count(12)", x.count(12), 4); break;
            case 2: due.is(behind + "count(13)", x.count(13), 27); break;
            case 3: due.is(behind + "count(4)", x.count(4), 9); break;
            case 4: due.is(behind + "count(5)", x.count(5), 13); break;
            case 5: due.is(behind + "lampOf(0, 2)", x.lampOf(0, 2), 21); break;
            case 6: due.is(behind + "lampOf(0, 3)", x.lampOf(0, 3), 9); break;
            case 7: due.is(behind + "bestLamp(1)", x.bestLamp(1), 14); break;
            case 8: due.is(behind + "cell(19, 2)", x.cell(19, 2), 1); break;
            case 9: due.is(behind + "cell(19, 5)", x.cell(19, 5), 1); break;
            case 10: due.is(behind + "exposure(63, 1)", x.exposure(63, 1), 14); break;
            case 11: due.is(behind + "exposure(27, 0)", x.exposure(27, 0), 6 + 1 + 2 + 4); break;
            case 12: due.is(behind + "ifPut(0, 0, 0)", x.ifPut(0, 0, 0), 9); break;
            default: due.isDouble(behind + "litShare()", x.litShare(), 9 / 64.0); break;
        }
    }

    private static void wrongInputs(Due due) {
        PillarLight x = new PillarLight();
        int[][] wrong = {{-1, 0}, {64, 0}, {0, -1}, {0, 8}, {Integer.MAX_VALUE, 3}, {3, Integer.MIN_VALUE}};
        for (int[] pair : wrong) {
            due.is("cell(" + pair[0] + ", " + pair[1] + ")", x.cell(pair[0], pair[1]), -1);
        }
        due.is("count(-1)", x.count(-1), -1);
        due.is("count(18)", x.count(18), -1);
        due.is("count(MAX)", x.count(Integer.MAX_VALUE), -1);
        due.is("count(MIN)", x.count(Integer.MIN_VALUE), -1);
    }

    private static void looksChangeNothing(Due due) {
        for (int look = 0; look < 12; look++) {
            PillarLight x = new PillarLight();
            x.put(10, 1);
            x.lamp(20, 5, 5);
            x.append(49);
            String before = Told.all(x) + Told.brief(x);
            lookEverywhere(x, look);
            due.isText("what is told before and behind look " + look, Told.all(x) + Told.brief(x), before);
        }
    }

    private static void lookEverywhere(PillarLight x, int look) {
        for (int cell = 0; cell < 64; cell++) {
            switch (look) {
                case 0: x.cell(cell, cell % 8); break;
                case 1: x.sees(cell, 63 - cell, cell % 2); break;
                case 2: x.stops(cell, 7); break;
                case 3: x.exposure(cell, cell % 2); break;
                case 4: x.way(cell, 3); break;
                case 5: x.ifPut(cell, cell % 4, cell % 3); break;
                case 6: x.lampOf(0, cell % 5); break;
                case 7: x.litShare(); break;
                case 8: x.bestLamp(cell % 10); break;
                case 9: x.darkIn(); break;
                case 10: x.fault(cell % 2); break;
                default: x.count(cell % 18); break;
            }
        }
    }
}

/** Promises 3, 4, 5 and 17: lamp, takeLamp, fill, lampOf; what lamps give. */
public final class LampTest {
    public static void main(String[] args) {
        Due due = new Due("LampTest");
        lampsAreSet(due);
        lampsAreAtMostSix(due);
        lampWrongInputs(due);
        lampsAreTaken(due);
        lampsAreFilled(due);
        fuelIsBurnt(due);
        lightGrowsWeak(due);
        lampsTellOfThemselves(due);
        lampsThatAreNotNeeded(due);
        lampsInTheCorners(due);
        sixLamps(due);
        due.close();
    }

    private static void lampsAreSet(Due due) {
        PillarLight x = new PillarLight();
        x.put(5, 1);
        x.put(6, 3);
        x.put(7, 2);
        due.is("lamp(0, 9, 99)", x.lamp(0, 9, 99), 0);
        due.is("lamp in a lamp's cell", x.lamp(0, 1, 1), -2);
        due.is("lamp in a wall", x.lamp(5, 1, 1), -2);
        due.is("lamp in a curtain", x.lamp(6, 1, 1), -2);
        due.is("lamp in glass", x.lamp(7, 1, 1), 1);
        x.fill(0, 0);
        due.is("lamp in the cell of one without fuel", x.lamp(0, 1, 1), -2);
        due.is("lamps", x.count(8), 2);
        due.is("states", x.count(17), 4);
    }

    private static void lampsAreAtMostSix(Due due) {
        PillarLight x = new PillarLight();
        for (int lamp = 0; lamp < 6; lamp++) {
            due.is("lamp " + lamp, x.lamp(10 + lamp, 1, 1), lamp);
        }
        due.is("lamp 6", x.lamp(20, 1, 1), -3);
        due.is("lamp in a lamp's cell", x.lamp(10, 1, 1), -2);
        due.is("lamp of strength 10", x.lamp(10, 10, 1), -1);
        due.is("lamps", x.count(8), 6);
        x.put(30, 1);
        due.is("lamp in a wall", x.lamp(30, 1, 1), -2);
        x.takeLamp(3);
        due.is("lamp in place of one", x.lamp(20, 1, 1), 5);
    }

    private static void lampWrongInputs(Due due) {
        PillarLight x = new PillarLight();
        int[][] wrong = {{-1, 1, 1}, {64, 1, 1}, {3, 0, 1}, {3, 10, 1}, {3, 1, 0}, {3, 1, 100},
            {3, Integer.MAX_VALUE, 1}, {3, 1, Integer.MIN_VALUE}, {Integer.MIN_VALUE, 1, 1}};
        for (int[] all : wrong) {
            due.is("lamp(" + all[0] + ", " + all[1] + ", " + all[2] + ")", x.lamp(all[0], all[1], all[2]), -1);
        }
        x.put(3, 1);
        due.is("lamp of fuel 0 in a wall", x.lamp(3, 1, 0), -1);
        due.is("lamps", x.count(8), 0);
        due.is("states", x.count(17), 1);
    }

    private static void lampsAreTaken(Due due) {
        PillarLight x = new PillarLight();
        due.is("takeLamp(0) without lamps", x.takeLamp(0), -1);
        x.lamp(10, 1, 11);
        x.lamp(20, 2, 22);
        x.lamp(30, 3, 33);
        due.is("takeLamp(3)", x.takeLamp(3), -1);
        due.is("takeLamp(-1)", x.takeLamp(-1), -1);
        due.is("takeLamp(MIN)", x.takeLamp(Integer.MIN_VALUE), -1);
        due.is("takeLamp(1)", x.takeLamp(1), 20);
        due.is("lamp 1", x.lampOf(1, 0), 30);
        due.is("its strength", x.lampOf(1, 1), 3);
        due.is("its fuel", x.lampOf(1, 4), 33);
        due.is("its number", x.cell(30, 6), 1);
        due.is("no lamp 2", x.lampOf(2, 0), -1);
        due.is("no lamp there", x.cell(20, 6), -4);
        due.is("takeLamp(0)", x.takeLamp(0), 10);
        due.is("takeLamp(0)", x.takeLamp(0), 30);
        due.is("lamps", x.count(8), 0);
    }

    private static void lampsAreFilled(Due due) {
        PillarLight x = new PillarLight();
        due.is("fill(0, 5) without lamps", x.fill(0, 5), -1);
        x.lamp(9, 9, 7);
        due.is("fill(0, 0)", x.fill(0, 0), 7);
        due.is("light without fuel", x.cell(9, 1), 0);
        due.is("cells with light", x.lampOf(0, 2), 0);
        due.is("givers", x.cell(9, 5), 0);
        due.is("fill(0, 99)", x.fill(0, 99), 0);
        due.is("light with fuel", x.cell(9, 1), 36);
        due.is("fill(0, 100)", x.fill(0, 100), -1);
        due.is("fill(0, -1)", x.fill(0, -1), -1);
        due.is("fill(1, 5)", x.fill(1, 5), -1);
        due.is("fill(-1, 5)", x.fill(-1, 5), -1);
        due.is("lampOf(0, 4)", x.lampOf(0, 4), 99);
        due.is("states", x.count(17), 3);
    }

    private static void fuelIsBurnt(Due due) {
        PillarLight x = new PillarLight();
        x.lamp(40, 9, 2);
        x.lamp(41, 9, 1);
        x.step(1);
        due.is("lampOf(0, 4)", x.lampOf(0, 4), 1);
        due.is("lampOf(1, 4)", x.lampOf(1, 4), 0);
        due.is("givers", x.cell(40, 5), 1);
        x.step(0);
        due.is("a step that there is not burns nothing", x.lampOf(0, 4), 1);
        MapTest.type(x, "3113");
        due.is("walk()", x.walk(), 4);
        due.is("lampOf(0, 4) behind a walk", x.lampOf(0, 4), 0);
        due.is("lampOf(1, 4) behind a walk", x.lampOf(1, 4), 0);
        due.is("the lamps stay", x.count(8), 2);
    }

    private static void lightGrowsWeak(Due due) {
        PillarLight x = new PillarLight();
        x.lamp(27, 9, 9);
        int[][] due9 = {{27, 36}, {26, 24}, {18, 18}, {25, 12}, {17, 10}, {9, 7}, {0, 3}, {63, 2}, {7, 2}};
        for (int[] pair : due9) {
            due.is("light of " + pair[0], x.cell(pair[0], 1), pair[1]);
        }
        x.takeLamp(0);
        x.lamp(27, 1, 9);
        int[][] due1 = {{27, 4}, {19, 2}, {36, 2}, {29, 1}, {10, 1}, {45, 0}, {24, 0}};
        for (int[] pair : due1) {
            due.is("weak light of " + pair[0], x.cell(pair[0], 1), pair[1]);
        }
        x.put(28, 1);
        due.is("light of a wall", x.cell(28, 1), 2);
        due.is("light behind it", x.cell(29, 1), 0);
        x.put(28, 2);
        due.is("light behind glass", x.cell(29, 1), 1);
        x.put(28, 3);
        due.is("light of a curtain", x.cell(28, 1), 2);
        due.is("light behind a curtain", x.cell(29, 1), 0);
        x.lamp(30, 9, 9);
        due.is("the sum of two lights", x.cell(28, 1), 2 + 12);
        due.is("givers of both", x.cell(28, 5), 3);
        due.is("givers behind the curtain", x.cell(29, 5), 2);
    }

    private static void lampsThatAreNotNeeded(Due due) {
        PillarLight x = new PillarLight();
        x.set(0, 4);
        x.lamp(0, 1, 1);
        x.lamp(2, 1, 1);
        due.is("light of 0", x.cell(0, 1), 4 + 1);
        due.is("light of 1", x.cell(1, 1), 2 + 2);
        due.is("a cell just lit", x.cell(1, 2), 1);
        due.is("lit", x.count(4), 4);
        due.is("a lit cell with just enough of the other", x.lampOf(1, 3), 3);
        x.set(0, 5);
        due.is("a cell just not lit", x.cell(1, 2), 0);
        due.is("cell 0 needs both", x.lampOf(0, 3), 2);
    }

    private static void lampsInTheCorners(Due due) {
        int[] corners = {0, 7, 56, 63};
        for (int corner : corners) {
            PillarLight x = new PillarLight();
            x.lamp(corner, 1, 1);
            due.is("cells with light of " + corner, x.lampOf(0, 2), 1 + 2 + 1 + 2 + 2);
            due.is("sum of light", x.count(11), 4 + 4 + 2 + 2 + 2);
            due.is("greatest light", x.count(12), 4);
            due.is("the cell with it", x.count(13), corner);
            x.takeLamp(0);
            due.is("light behind takeLamp", x.cell(corner, 1), 0);
            due.is("givers behind takeLamp", x.cell(corner, 5), 0);
            due.is("sum behind takeLamp", x.count(11), 0);
        }
        PillarLight y = new PillarLight();
        y.lamp(1, 1, 1);
        due.is("the brightest cell", y.count(13), 1);
        y.lamp(40, 1, 1);
        due.is("the lowest of two", y.count(13), 1);
        y.lamp(50, 2, 1);
        due.is("the brightest of three", y.count(13), 50);
    }

    private static void sixLamps(Due due) {
        PillarLight x = new PillarLight();
        for (int lamp = 0; lamp < 6; lamp++) {
            x.lamp(8 * lamp + 9, 1, lamp + 1);
        }
        due.is("light", x.cell(25, 1), 1 + 2 + 4 + 2 + 1);
        due.is("givers", x.cell(25, 5), 31);
        due.is("givers of a far cell", x.cell(57, 5), 48);
        due.is("greatest light", x.count(12), 10);
        due.is("step(1)", x.step(1), 1);
        for (int lamp = 0; lamp < 6; lamp++) {
            due.is("fuel of lamp " + lamp, x.lampOf(lamp, 4), lamp);
        }
        due.is("givers without the first", x.cell(25, 5), 30);
        due.is("lamp behind all", x.cell(49, 6), 5);
        due.is("takeLamp(5)", x.takeLamp(5), 49);
        due.is("no lamp behind all", x.cell(49, 6), -4);
        due.is("givers of a far cell", x.cell(57, 5), 16);
    }

    private static void lampsTellOfThemselves(Due due) {
        PillarLight x = new PillarLight();
        x.lamp(27, 1, 5);
        due.is("cells with light", x.lampOf(0, 2), 21);
        due.is("cells that need it", x.lampOf(0, 3), 1);
        x.lamp(28, 1, 6);
        due.is("lit", x.count(4), 12);
        due.is("cells that need lamp 0", x.lampOf(0, 3), 11);
        due.is("cells that need lamp 1", x.lampOf(1, 3), 11);
        due.is("lampOf(1, 0)", x.lampOf(1, 0), 28);
        due.is("lampOf(1, 1)", x.lampOf(1, 1), 1);
        due.is("lampOf(1, 4)", x.lampOf(1, 4), 6);
        x.fill(1, 0);
        due.is("cells that need a lamp without fuel", x.lampOf(1, 3), 0);
        due.is("cells with its light", x.lampOf(1, 2), 0);
        due.is("lampOf(0, 5)", x.lampOf(0, 5), -1);
        due.is("lampOf(0, -1)", x.lampOf(0, -1), -1);
        due.is("lampOf(2, 0)", x.lampOf(2, 0), -1);
        due.is("lampOf(-1, 0)", x.lampOf(-1, 0), -1);
        due.is("lampOf(MAX, MAX)", x.lampOf(Integer.MAX_VALUE, Integer.MAX_VALUE), -1);
    }
}

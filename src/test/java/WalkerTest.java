/** Promises 7, 8 and 13: step, forget, walk; what the walker sees and remembers. */
public final class WalkerTest {
    public static void main(String[] args) {
        Due due = new Due("WalkerTest");
        steps(due);
        stepsAtTheEdges(due);
        whatStopsFeet(due);
        memory(due);
        memoryOfChanges(due);
        sightOfLitCells(due);
        fuelGoesFirst(due);
        walks(due);
        walksThatEndEarly(due);
        due.close();
    }

    private static void steps(Due due) {
        PillarLight x = new PillarLight();
        due.is("step(1)", x.step(1), 1);
        due.is("step(2)", x.step(2), 9);
        due.is("step(3)", x.step(3), 8);
        due.is("step(0)", x.step(0), 0);
        due.is("steps", x.count(10), 4);
        due.is("step(4)", x.step(4), -1);
        due.is("step(-1)", x.step(-1), -1);
        due.is("step(MAX)", x.step(Integer.MAX_VALUE), -1);
        due.is("step(MIN)", x.step(Integer.MIN_VALUE), -1);
        due.is("steps", x.count(10), 4);
        x.undo();
        due.is("steps behind undo", x.count(10), 3);
        due.is("walker behind undo", x.count(9), 8);
    }

    private static void stepsAtTheEdges(Due due) {
        PillarLight x = new PillarLight();
        due.is("step(0)", x.step(0), -2);
        due.is("step(3)", x.step(3), -2);
        MapTest.type(x, "1111111");
        due.is("walk()", x.walk(), 7);
        due.is("step(1) at the right", x.step(1), -2);
        due.is("step(0) at the right", x.step(0), -2);
        MapTest.type(x, "2222222");
        due.is("walk()", x.walk(), 7);
        due.is("step(2) at the bottom", x.step(2), -2);
        due.is("step(1) at the bottom", x.step(1), -2);
        due.is("walker", x.count(9), 63);
        MapTest.type(x, "3333333");
        due.is("walk()", x.walk(), 7);
        due.is("step(3) at the left", x.step(3), -2);
        due.is("step(2) at the left", x.step(2), -2);
        due.is("walker", x.count(9), 56);
    }

    private static void whatStopsFeet(Due due) {
        PillarLight x = new PillarLight();
        x.put(1, 1);
        due.is("step into a wall", x.step(1), -2);
        x.put(1, 2);
        due.is("step into glass", x.step(1), -2);
        due.is("states", x.count(17), 2);
        x.put(1, 3);
        due.is("step into a curtain", x.step(1), 1);
        due.is("seen out of a curtain", x.count(5), 6);
    }

    private static void memory(Due due) {
        PillarLight x = new PillarLight();
        x.step(1);
        due.is("remembered", x.count(6), 6);
        due.is("cell(8, 4)", x.cell(8, 4), 1);
        due.is("cell(3, 4)", x.cell(3, 4), 0);
        due.is("forget()", x.forget(), 6);
        due.is("remembered then", x.count(6), 6);
        x.step(3);
        due.is("seen", x.count(5), 4);
        due.is("cell(2, 3)", x.cell(2, 3), 0);
        due.is("cell(2, 4)", x.cell(2, 4), 1);
        due.is("forget()", x.forget(), 6);
        due.is("remembered then", x.count(6), 4);
        due.is("cell(2, 4)", x.cell(2, 4), 0);
        due.is("undo()", x.undo(), 3);
        due.is("remembered again", x.count(6), 6);
        due.is("forget()", x.forget(), 6);
        due.is("forget()", x.forget(), 4);
        due.is("states", x.count(17), 4);
    }

    private static void memoryOfChanges(Due due) {
        PillarLight x = new PillarLight();
        x.put(1, 1);
        x.set(1, 2);
        due.is("behind the wall", x.cell(2, 4), 0);
        x.put(1, 0);
        due.is("behind put()", x.cell(2, 4), 1);
        x.undo();
        due.is("behind undo()", x.cell(2, 4), 0);
        MapTest.type(x, MapTest.FLOORS);
        x.load();
        due.is("behind load()", x.cell(2, 4), 1);
        PillarLight y = new PillarLight();
        y.put(9, 1);
        y.lamp(63, 1, 1);
        y.fill(0, 0);
        y.put(9, 0);
        due.is("without fuel", y.cell(63, 4), 0);
        y.fill(0, 1);
        due.is("behind fill()", y.cell(63, 4), 1);
        due.is("beside the lamp", y.cell(62, 4), 0);
        y.set(0, 2);
        due.is("behind set()", y.cell(62, 4), 1);
        y.lamp(36, 1, 1);
        due.is("behind lamp()", y.cell(28, 4), 1);
        y.takeLamp(1);
        due.is("behind takeLamp()", y.cell(28, 4), 1);
        due.is("seen behind takeLamp()", y.cell(28, 3), 0);
    }

    private static void sightOfLitCells(Due due) {
        PillarLight x = new PillarLight();
        x.lamp(63, 1, 5);
        due.is("a far lit cell", x.cell(63, 3), 1);
        due.is("a far dim cell", x.cell(62, 3), 0);
        due.is("seen", x.count(5), 5);
        x.put(27, 1);
        due.is("behind a wall", x.cell(63, 3), 0);
        due.is("remembered still", x.cell(63, 4), 1);
        x.put(1, 1);
        due.is("a near wall", x.cell(1, 3), 1);
        x.set(1, 4);
        due.is("near, but behind a wall", x.cell(2, 3), 0);
        due.is("near, behind a wall's side", x.cell(11, 3), 0);
        due.is("near, beside a wall's corner", x.cell(9, 3), 1);
        due.is("too far down", x.cell(40, 3), 0);
        due.is("near enough", x.cell(32, 3), 1);
    }

    private static void fuelGoesFirst(Due due) {
        for (int fuel = 1; fuel <= 2; fuel++) {
            PillarLight x = new PillarLight();
            x.put(1, 1);
            x.lamp(3, 1, fuel);
            due.is("hidden by the wall", x.cell(3, 4), 0);
            due.is("step(2)", x.step(2), 8);
            due.is("seen with fuel " + fuel, x.cell(3, 3), fuel - 1);
            due.is("remembered with fuel " + fuel, x.cell(3, 4), fuel - 1);
        }
    }

    private static void walks(Due due) {
        PillarLight x = new PillarLight();
        MapTest.type(x, "112230");
        due.is("walk()", x.walk(), 6);
        due.is("walker", x.count(9), 9);
        due.is("steps", x.count(10), 6);
        due.is("states", x.count(17), 1);
        due.is("the pad", x.count(16), 0);
        due.is("remembered on the way", x.cell(27, 4), 1);
        due.is("remembered", x.count(6), 16);
        due.is("walk() of the empty pad", x.walk(), -2);
        due.is("undo()", x.undo(), 0);
        due.is("remembered behind undo", x.count(6), 4);
        due.is("walker behind undo", x.count(9), 0);
        due.is("steps behind undo", x.count(10), 0);
        MapTest.type(x, "12a");
        due.is("walk() with a fault", x.walk(), -2);
        due.is("the pad stays", x.count(16), 3);
        due.is("walker", x.count(9), 0);
        due.is("states", x.count(17), 0);
    }

    private static void walksThatEndEarly(Due due) {
        PillarLight x = new PillarLight();
        x.lamp(50, 1, 50);
        MapTest.type(x, "01");
        due.is("walk() into the edge", x.walk(), 0);
        due.is("walker", x.count(9), 0);
        due.is("it is a change", x.count(17), 2);
        due.is("the pad", x.count(16), 0);
        x.put(2, 2);
        MapTest.type(x, "112");
        due.is("walk() into glass", x.walk(), 1);
        due.is("walker", x.count(9), 1);
        due.is("steps", x.count(10), 1);
        due.is("fuel", x.lampOf(0, 4), 49);
    }
}

/** Promises 2 and 12: put, load. */
public final class MapTest {
    static final String FLOORS = "......../......../......../......../......../......../......../........";

    public static void main(String[] args) {
        Due due = new Due("MapTest");
        putChangesOneCell(due);
        putTakesHiddenLamps(due);
        putAtTheWalker(due);
        putWrongInputs(due);
        loadMakesTheMap(due);
        loadTakesHiddenLamps(due);
        loadWithFault(due);
        due.close();
    }

    static void type(PillarLight light, String text) {
        light.clear();
        for (int at = 0; at < text.length(); at++) {
            light.append(text.charAt(at));
        }
    }

    private static void putChangesOneCell(Due due) {
        PillarLight x = new PillarLight();
        due.is("put(63, 1)", x.put(63, 1), 0);
        due.is("put(63, 2)", x.put(63, 2), 1);
        due.is("put(63, 3)", x.put(63, 3), 2);
        due.is("put(63, 3) again", x.put(63, 3), 3);
        due.is("states", x.count(17), 4);
        due.is("cell(63, 0)", x.cell(63, 0), 3);
        due.is("cell(62, 0)", x.cell(62, 0), 0);
        due.is("curtains", x.count(3), 1);
        due.is("floors", x.count(0), 63);
        due.is("put(63, 0)", x.put(63, 0), 3);
    }

    private static void putTakesHiddenLamps(Due due) {
        PillarLight x = new PillarLight();
        x.lamp(10, 1, 1);
        x.lamp(20, 2, 2);
        x.lamp(30, 3, 3);
        due.is("glass on a lamp", x.put(10, 2), 0);
        due.is("lamps", x.count(8), 3);
        due.is("a curtain on a lamp", x.put(10, 3), 2);
        due.is("lamps behind a curtain", x.count(8), 2);
        due.is("the next lamp's new number", x.cell(20, 6), 0);
        due.is("a wall on a lamp", x.put(30, 1), 0);
        due.is("lamps behind a wall", x.count(8), 1);
        due.is("the lamp that stays", x.lampOf(0, 0), 20);
        due.is("its strength", x.lampOf(0, 1), 2);
        due.is("its fuel", x.lampOf(0, 4), 2);
        due.is("undo()", x.undo(), 3);
        due.is("the lamp is back", x.lampOf(1, 0), 30);
    }

    private static void putAtTheWalker(Due due) {
        PillarLight x = new PillarLight();
        due.is("a wall at the walker", x.put(0, 1), -2);
        due.is("glass at the walker", x.put(0, 2), -2);
        due.is("states", x.count(17), 0);
        due.is("a curtain at the walker", x.put(0, 3), 0);
        due.is("a floor at the walker", x.put(0, 0), 3);
        x.step(1);
        due.is("a wall where the walker was", x.put(0, 1), 0);
        due.is("a wall where it is", x.put(1, 1), -2);
        due.is("a kind above all at the walker", x.put(1, 4), -1);
    }

    private static void putWrongInputs(Due due) {
        PillarLight x = new PillarLight();
        int[][] wrong = {{-1, 0}, {64, 0}, {5, -1}, {5, 4}, {Integer.MIN_VALUE, 1}, {Integer.MAX_VALUE, 1},
            {5, Integer.MAX_VALUE}, {5, Integer.MIN_VALUE}};
        for (int[] pair : wrong) {
            due.is("put(" + pair[0] + ", " + pair[1] + ")", x.put(pair[0], pair[1]), -1);
        }
        due.is("states", x.count(17), 0);
        due.is("floors", x.count(0), 64);
    }

    private static void loadMakesTheMap(Due due) {
        PillarLight x = new PillarLight();
        x.put(1, 2);
        x.put(2, 2);
        type(x, "~#=~..../......../......../......../......../......../......../.......#");
        due.is("load()", x.load(), 5 - 1);
        int[] row = {3, 1, 2, 3, 0, 0, 0, 0};
        for (int cell = 0; cell < 8; cell++) {
            due.is("cell(" + cell + ", 0)", x.cell(cell, 0), row[cell]);
        }
        due.is("cell(8, 0)", x.cell(8, 0), 0);
        due.is("cell(63, 0)", x.cell(63, 0), 1);
        due.is("the pad", x.count(16), 0);
        due.is("states", x.count(17), 3);
        due.is("load() of the empty pad", x.load(), -2);
        type(x, "~#=~..../......../......../......../......../......../......../.......#");
        due.is("load() of the same map", x.load(), 0);
        due.is("it is a change", x.count(17), 4);
        x.append('.');
        due.is("undo()", x.undo(), 3);
        due.is("undo()", x.undo(), 2);
        due.is("the pad stays as it is", x.count(16), 1);
        due.is("the kind before", x.cell(1, 0), 2);
        due.is("the kind before", x.cell(63, 0), 0);
    }

    private static void loadTakesHiddenLamps(Due due) {
        PillarLight x = new PillarLight();
        for (int cell = 1; cell <= 6; cell++) {
            x.lamp(cell, cell, 10 * cell);
        }
        type(x, ".#=~.#~" + FLOORS.substring(7));
        due.is("load()", x.load(), 5);
        due.is("lamps", x.count(8), 2);
        due.is("lamp 0", x.lampOf(0, 0), 2);
        due.is("its strength", x.lampOf(0, 1), 2);
        due.is("lamp 1", x.lampOf(1, 0), 4);
        due.is("its fuel", x.lampOf(1, 4), 40);
    }

    private static void loadWithFault(Due due) {
        PillarLight x = new PillarLight();
        x.step(1);
        type(x, ".#" + FLOORS.substring(2));
        due.is("load() of a wall at the walker", x.load(), -2);
        due.is("the pad stays", x.count(16), 71);
        type(x, FLOORS.substring(1));
        due.is("load() of a short map", x.load(), -2);
        type(x, FLOORS + ".");
        due.is("load() of a long map", x.load(), -2);
        due.is("states", x.count(17), 1);
        type(x, "#~" + FLOORS.substring(2));
        due.is("load() of a curtain at the walker", x.load(), 2);
    }
}

/** The terms of the map, promises 1, 2 and 12: a test of each sentence that names an edge. */
public final class EdgeMapTest {
    private static final int FLOOR = 0, WALL = 1, GLASS = 2, CURTAIN = 3;
    private static final String SIGNS = ".#=~";

    private final Due due = new Due("EdgeMapTest");

    public static void main(String[] args) {
        EdgeMapTest test = new EdgeMapTest();
        test.cellsAreNumberedByRows();
        test.nothingGoesOnInTheNextRow();
        test.cellsAreOfAKind();
        test.kindsStopLightAndFeet();
        test.aNewMapIsEmpty();
        test.putTellsTheKindBefore();
        test.putTakesALampThatIsHidden();
        test.putLeavesOtherLamps();
        test.putAtTheWalker();
        test.loadMakesEachCell();
        test.loadTakesHiddenLamps();
        test.loadEmptiesThePad();
        test.loadCountsOtherKinds();
        test.loadWithAFault();
        test.due.close();
    }

    /** Returns an object whose walker has gone to a cell of the empty map. */
    static PillarLight walkerAt(int cell) {
        PillarLight x = new PillarLight();
        for (int column = 0; column < cell % 8; column++) {
            x.step(1);
        }
        for (int row = 0; row < cell / 8; row++) {
            x.step(2);
        }
        return x;
    }

    /** Returns a map of floors but for one sign. */
    private static String mapWith(int cell, char sign) {
        StringBuilder map = new StringBuilder(MapTest.FLOORS);
        map.setCharAt(cell / 8 * 9 + cell % 8, sign);
        return map.toString();
    }

    private void cellsAreNumberedByRows() {
        due.sentence(0, "The map has 8 rows and 8 columns of cells, numbered from 0, from the top to the bottom and "
                + "from the left to the right; the cell at a row and a column has the number 8 * row + column.");
        for (int cell = 0; cell < 64; cell++) {
            due.is("count(9) in " + cell, walkerAt(cell).count(9), cell);
            due.is("step(0) from " + cell, walkerAt(cell).step(0), cell / 8 == 0 ? -2 : cell - 8);
            due.is("step(1) from " + cell, walkerAt(cell).step(1), cell % 8 == 7 ? -2 : cell + 1);
            due.is("step(2) from " + cell, walkerAt(cell).step(2), cell / 8 == 7 ? -2 : cell + 8);
            due.is("step(3) from " + cell, walkerAt(cell).step(3), cell % 8 == 0 ? -2 : cell - 1);
        }
    }

    private void nothingGoesOnInTheNextRow() {
        PillarLight x = walkerAt(7);
        x.lamp(7, 9, 9);
        due.is("light of 15, below the lamp", x.cell(15, 1), 24);
        due.is("light of 8, seven columns from the lamp", x.cell(8, 1), 1);
        PillarLight y = walkerAt(7);
        due.is("15 is near 7", y.cell(15, 3), 1);
        due.is("8 is not near 7", y.cell(8, 3), 0);
        PillarLight z = new PillarLight();
        z.put(7, WALL);
        z.put(8, WALL);
        due.is("7 and 8 are not beside each other", z.sees(6, 15, 0), 1);
        due.is("none lies between 6 and 9", z.stops(6, 9), -4);
        for (int row = 0; row < 7; row++) {
            PillarLight w = new PillarLight();
            for (int other = 0; other < 8; other++) {
                w.put(8 * other + 1, GLASS);
            }
            due.is("no way from column 0 to column 7 of the row above", w.exposure(8 * row + 7, 0), -4);
        }
    }

    private void cellsAreOfAKind() {
        due.sentence(0, "Each cell is of a kind: 0 floor, 1 wall, 2 glass, 3 curtain (floor at first).");
        for (int cell = 0; cell < 64; cell++) {
            due.is("cell(" + cell + ", 0) at first", new PillarLight().cell(cell, 0), FLOOR);
            for (int kind = 0; cell > 0 && kind <= 3; kind++) {
                PillarLight x = new PillarLight();
                due.is("put(" + cell + ", " + kind + ")", x.put(cell, kind), FLOOR);
                due.is("its kind then", x.cell(cell, 0), kind);
                for (int other = 0; other <= 3; other++) {
                    int want = (other == FLOOR ? 63 : 0) + (other == kind ? 1 : 0);
                    due.is("count(" + other + ") then", x.count(other), want);
                }
            }
        }
    }

    private void kindsStopLightAndFeet() {
        due.sentence(0, "Walls and curtains stop light, walls and glass stop feet.");
        for (int kind = 0; kind <= 3; kind++) {
            PillarLight x = new PillarLight();
            x.put(1, kind);
            int free = kind == WALL || kind == CURTAIN ? 0 : 1;
            due.is("sees(0, 2, 0) with kind " + kind, x.sees(0, 2, 0), free);
            due.is("sees(0, 2, 1) with kind " + kind, x.sees(0, 2, 1), free);
            due.is("stops(0, 2) with kind " + kind, x.stops(0, 2), free == 1 ? -4 : 1);
            boolean open = kind == FLOOR || kind == CURTAIN;
            due.is("exposure(1, 0) with kind " + kind, x.exposure(1, 0), open ? 1 : -4);
            due.is("exposure(1, 1) with kind " + kind, x.exposure(1, 1), open ? 1 : -4);
            due.is("count(7) with kind " + kind, x.count(7), open ? 64 : 63);
            due.is("step(1) with kind " + kind, x.step(1), open ? 1 : -2);
        }
    }

    private void aNewMapIsEmpty() {
        due.sentence(1, "Creates a map of floors without lamps.");
        PillarLight x = new PillarLight();
        due.is("floors", x.count(0), 64);
        due.is("walls", x.count(1), 0);
        due.is("panes of glass", x.count(2), 0);
        due.is("curtains", x.count(3), 0);
        due.is("lamps", x.count(8), 0);
        due.is("takeLamp(0)", x.takeLamp(0), -1);
        due.is("fill(0, 1)", x.fill(0, 1), -1);
        due.is("lampOf(0, 0)", x.lampOf(0, 0), -1);
        for (int cell = 0; cell < 64; cell++) {
            due.is("cell(" + cell + ", 6)", x.cell(cell, 6), -4);
        }
    }

    private void putTellsTheKindBefore() {
        due.sentence(2, "Returns the kind before");
        int[] cells = {1, 7, 8, 27, 56, 62, 63};
        for (int cell : cells) {
            for (int before = 0; before <= 3; before++) {
                for (int kind = 0; kind <= 3; kind++) {
                    PillarLight x = new PillarLight();
                    x.put(cell, before);
                    due.is("put(" + cell + ", " + kind + ") on " + before, x.put(cell, kind), before);
                    due.is("the kind then", x.cell(cell, 0), kind);
                }
            }
        }
    }

    private void putTakesALampThatIsHidden() {
        due.sentence(2, "Changes the kind of a cell; a lamp in a cell that stops light then is taken away.");
        for (int kind = 0; kind <= 3; kind++) {
            boolean hidden = kind == WALL || kind == CURTAIN;
            PillarLight x = new PillarLight();
            x.lamp(63, 9, 9);
            due.is("put(63, " + kind + ") on a lamp", x.put(63, kind), FLOOR);
            due.is("lamps", x.count(8), hidden ? 0 : 1);
            due.is("cell(63, 6)", x.cell(63, 6), hidden ? -4 : 0);
            due.is("light of 62", x.cell(62, 1), hidden ? 0 : 24);
        }
        PillarLight y = new PillarLight();
        y.lamp(0, 9, 9);
        due.is("a curtain on the walker's lamp", y.put(0, CURTAIN), FLOOR);
        due.is("lamps", y.count(8), 0);
        PillarLight z = new PillarLight();
        z.lamp(20, 9, 1);
        z.fill(0, 0);
        z.put(20, WALL);
        due.is("a lamp without fuel is taken too", z.count(8), 0);
        z.put(20, FLOOR);
        due.is("it does not come back", z.count(8), 0);
    }

    private void putLeavesOtherLamps() {
        for (int hidden = 0; hidden < 6; hidden++) {
            PillarLight x = sixLamps();
            x.put(10 * hidden + 1, hidden % 2 == 0 ? WALL : CURTAIN);
            due.is("lamps without " + hidden, x.count(8), 5);
            for (int lamp = 0; lamp < 5; lamp++) {
                int was = lamp < hidden ? lamp : lamp + 1;
                due.is("cell of lamp " + lamp, x.lampOf(lamp, 0), 10 * was + 1);
                due.is("strength of lamp " + lamp, x.lampOf(lamp, 1), was + 1);
                due.is("fuel of lamp " + lamp, x.lampOf(lamp, 4), was + 20);
            }
        }
        PillarLight y = sixLamps();
        y.put(2, WALL);
        y.put(10, CURTAIN);
        due.is("pillars beside lamps take none", y.count(8), 6);
    }

    private static PillarLight sixLamps() {
        PillarLight x = new PillarLight();
        for (int lamp = 0; lamp < 6; lamp++) {
            x.lamp(10 * lamp + 1, lamp + 1, lamp + 20);
        }
        return x;
    }

    private void putAtTheWalker() {
        due.sentence(2, "NOT_POSSIBLE if the walker is there, and the kind stops feet.");
        int[] cells = {0, 7, 27, 56, 63};
        for (int cell : cells) {
            for (int kind = 0; kind <= 3; kind++) {
                PillarLight x = walkerAt(cell);
                int want = kind == WALL || kind == GLASS ? -2 : 0;
                due.is("put(" + cell + ", " + kind + ") at the walker", x.put(cell, kind), want);
                due.is("the kind then", x.cell(cell, 0), kind == CURTAIN ? CURTAIN : FLOOR);
                due.is("a wall beside the walker", x.put(cell == 63 ? 62 : cell + 1, WALL), FLOOR);
                due.is("glass above or below it", x.put(cell < 8 ? cell + 8 : cell - 8, GLASS), FLOOR);
            }
        }
        PillarLight y = new PillarLight();
        y.lamp(0, 9, 9);
        due.is("a wall on the walker's lamp", y.put(0, WALL), -2);
        due.is("the lamp stays", y.cell(0, 6), 0);
        y.put(0, CURTAIN);
        due.is("a wall in place of the walker's curtain", y.put(0, WALL), -2);
        due.is("the curtain stays", y.cell(0, 0), CURTAIN);
        y.step(2);
        due.is("a wall where the walker was", y.put(0, WALL), CURTAIN);
    }

    private void loadMakesEachCell() {
        due.sentence(12, "Makes the map of the pad the map, and empties the pad; lamps in cells that stop light then "
                + "are taken away.");
        for (int cell = 0; cell < 64; cell++) {
            for (int kind = 0; kind <= 3; kind++) {
                PillarLight x = new PillarLight();
                MapTest.type(x, mapWith(cell, SIGNS.charAt(kind)));
                boolean trapped = cell == 0 && (kind == WALL || kind == GLASS);
                due.is("load() with kind " + kind + " in " + cell, x.load(), trapped ? -2 : kind == 0 ? 0 : 1);
                due.is("the kind then", x.cell(cell, 0), trapped ? FLOOR : kind);
                due.is("floors then", x.count(0), trapped || kind == FLOOR ? 64 : 63);
            }
        }
        PillarLight y = new PillarLight();
        y.put(63, WALL);
        y.put(62, GLASS);
        y.put(61, CURTAIN);
        MapTest.type(y, MapTest.FLOORS);
        due.is("load() of floors", y.load(), 3);
        due.is("floors then", y.count(0), 64);
    }

    private void loadTakesHiddenLamps() {
        for (int kind = 0; kind <= 3; kind++) {
            PillarLight x = sixLamps();
            MapTest.type(x, MapTest.FLOORS.substring(0, 9)
                    + MapTest.FLOORS.substring(9).replace('.', SIGNS.charAt(kind)));
            due.is("load() with kind " + kind, x.load(), kind == FLOOR ? 0 : 56);
            due.is("lamps then", x.count(8), kind == WALL || kind == CURTAIN ? 1 : 6);
            due.is("lamp 0 then", x.lampOf(0, 0), 1);
        }
        PillarLight y = sixLamps();
        MapTest.type(y, mapWith(1, '#').substring(0, 57) + mapWith(51, '~').substring(57));
        due.is("load() over the first and the last", y.load(), 2);
        due.is("lamps then", y.count(8), 4);
        for (int lamp = 0; lamp < 4; lamp++) {
            due.is("cell of lamp " + lamp, y.lampOf(lamp, 0), 10 * lamp + 11);
            due.is("strength of lamp " + lamp, y.lampOf(lamp, 1), lamp + 2);
            due.is("fuel of lamp " + lamp, y.lampOf(lamp, 4), lamp + 21);
        }
        PillarLight z = sixLamps();
        z.step(2);
        MapTest.type(z, MapTest.FLOORS.replace('.', '~'));
        due.is("load() of curtains alone", z.load(), 64);
        due.is("lamps then", z.count(8), 0);
    }

    private void loadEmptiesThePad() {
        PillarLight x = new PillarLight();
        MapTest.type(x, mapWith(63, '#'));
        due.is("load()", x.load(), 1);
        due.is("the pad then", x.count(16), 0);
        due.is("its fault as a map", x.fault(0), 0);
        due.is("its fault as a walk", x.fault(1), 0);
        due.is("load() of the empty pad", x.load(), -2);
        due.is("append('.')", x.append('.'), 1);
        due.is("clear()", x.clear(), 1);
    }

    private void loadCountsOtherKinds() {
        due.sentence(12, "Returns how many cells have another kind then");
        PillarLight x = new PillarLight();
        MapTest.type(x, MapTest.FLOORS);
        due.is("load() of the same map", x.load(), 0);
        MapTest.type(x, "." + MapTest.FLOORS.substring(1).replace('.', '#'));
        due.is("load() of walls round the walker", x.load(), 63);
        MapTest.type(x, "~" + MapTest.FLOORS.substring(1).replace('.', '='));
        due.is("load() of other kinds everywhere", x.load(), 64);
        MapTest.type(x, "." + MapTest.FLOORS.substring(1).replace('.', '='));
        due.is("load() of another kind at the walker", x.load(), 1);
    }

    private void loadWithAFault() {
        due.sentence(12, "NOT_POSSIBLE if the pad has a fault, read as a map.");
        String floors = MapTest.FLOORS;
        String[] wrong = {"", ".", floors.substring(0, 70), floors + ".", floors + "/", floors + "/........",
            "0123", "#" + floors.substring(1), "=" + floors.substring(1), floors.substring(0, 70) + "/",
            floors.replace('/', '.'), floors.substring(1), floors.substring(9) + "/"};
        for (String text : wrong) {
            PillarLight x = new PillarLight();
            x.put(63, GLASS);
            MapTest.type(x, text);
            due.is("load() of " + text, x.load(), -2);
            due.is("the pad stays", x.count(16), text.length());
            due.is("the map stays", x.cell(63, 0), GLASS);
            due.is("states", x.count(17), 1);
        }
        PillarLight y = walkerAt(63);
        MapTest.type(y, mapWith(63, '='));
        due.is("load() of glass at the walker", y.load(), -2);
        MapTest.type(y, mapWith(63, '~'));
        due.is("load() of a curtain at the walker", y.load(), 1);
        MapTest.type(y, mapWith(0, '#'));
        due.is("load() of a wall where the walker was", y.load(), 2);
    }
}

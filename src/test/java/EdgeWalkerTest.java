/** The terms of the walker, promises 7, 8 and 13: a test of each sentence that names an edge. */
public final class EdgeWalkerTest {
    private static final int FLOOR = 0, WALL = 1, GLASS = 2, CURTAIN = 3;

    private final Due due = new Due("EdgeWalkerTest");

    public static void main(String[] args) {
        EdgeWalkerTest test = new EdgeWalkerTest();
        test.theWalkerIsInCellZeroAtFirst();
        test.nearIsAtMostTorch();
        test.aSeenCellIsLitOrNear();
        test.aWalkerSeesOnlyWhatItsCellSees();
        test.eachChangeIsRemembered();
        test.fuelIsBurntBeforeTheLook();
        test.whatIsRememberedStays();
        test.memoryAtTheBeginning();
        test.aStepThatThereIsNot();
        test.aStepTellsTheCell();
        test.forgetLeavesWhatIsSeen();
        test.forgetTellsHowMany();
        test.aWalkGoesOneStepAfterTheOther();
        test.aWalkEndsAtTheFirstStepThatThereIsNot();
        test.aWalkIsRememberedStepByStep();
        test.aWalkIsOneChange();
        test.aWalkWithAFault();
        test.due.close();
    }

    private static void type(PillarLight x, String text) {
        MapTest.type(x, text);
    }

    private void theWalkerIsInCellZeroAtFirst() {
        due.sentence(0, "A walker is in a cell that does not stop feet (in the cell 0 at first).");
        PillarLight x = new PillarLight();
        due.is("count(9)", x.count(9), 0);
        due.is("count(10)", x.count(10), 0);
        due.is("save()", x.save(), 0);
        due.is("way(63, 0)", x.way(63, 0), 0);
        due.is("step(3)", x.step(3), -2);
        due.is("step(0)", x.step(0), -2);
    }

    private void nearIsAtMostTorch() {
        due.sentence(0, "near (the differences of rows and of columns are both at most TORCH)");
        int[] walkers = {0, 7, 27, 36, 56, 63};
        for (int walker : walkers) {
            for (int torch = 0; torch <= 4; torch++) {
                PillarLight x = EdgeMapTest.walkerAt(walker);
                x.set(PillarLight.TORCH, torch);
                int near = 0;
                for (int cell = 0; cell < 64; cell++) {
                    int rows = Math.abs(cell / 8 - walker / 8);
                    int columns = Math.abs(cell % 8 - walker % 8);
                    int want = rows <= torch && columns <= torch ? 1 : 0;
                    near += want;
                    due.is("cell(" + cell + ", 3) from " + walker + " at TORCH " + torch, x.cell(cell, 3), want);
                }
                due.is("count(5) from " + walker + " at TORCH " + torch, x.count(5), near);
            }
        }
    }

    private void aSeenCellIsLitOrNear() {
        due.sentence(0, "The walker sees a cell, if the walker's cell sees it, and it is, besides, lit or near");
        PillarLight x = new PillarLight();
        x.lamp(63, 1, 9);
        x.set(PillarLight.DIM, 4);
        due.is("a far cell with light 4 at DIM 4", x.cell(63, 3), 1);
        due.is("a far cell with light 2 at DIM 4", x.cell(62, 3), 0);
        due.is("a near cell without light", x.cell(9, 3), 1);
        due.is("a cell that is neither lit nor near", x.cell(10, 3), 0);
        due.is("seen", x.count(5), 5);
        x.set(PillarLight.DIM, 5);
        due.is("a far cell with light 4 at DIM 5", x.cell(63, 3), 0);
        due.is("seen", x.count(5), 4);
        x.set(PillarLight.TORCH, 0);
        due.is("the walker's own cell at TORCH 0", x.cell(0, 3), 1);
        due.is("the next one at TORCH 0", x.cell(1, 3), 0);
        due.is("seen at TORCH 0", x.count(5), 1);
        x.lamp(1, 9, 9);
        x.fill(1, 0);
        due.is("a lamp without fuel at TORCH 0", x.cell(1, 3), 0);
        x.fill(1, 1);
        due.is("a lamp with fuel at TORCH 0", x.cell(1, 3), 1);
    }

    private void aWalkerSeesOnlyWhatItsCellSees() {
        for (int kind = 0; kind <= 3; kind++) {
            boolean stops = kind == WALL || kind == CURTAIN;
            PillarLight x = new PillarLight();
            x.put(2, kind);
            x.put(8, kind);
            x.lamp(5, 9, 9);
            x.set(PillarLight.TORCH, 4);
            due.is("a near cell of kind " + kind, x.cell(2, 3), 1);
            due.is("a near cell behind it", x.cell(3, 3), stops ? 0 : 1);
            due.is("a lit cell behind it", x.cell(5, 3), stops ? 0 : 1);
            due.is("the lit cell is lit all the same", x.cell(5, 2), 1);
            due.is("a near cell below it", x.cell(16, 3), stops ? 0 : 1);
            due.is("a cell in the open", x.cell(9, 3), 1);
        }
        PillarLight y = new PillarLight();
        y.put(0, CURTAIN);
        due.is("seen out of a curtain", y.count(5), 4);
        y.put(1, WALL);
        y.put(8, WALL);
        due.is("seen behind a corner between two pillars", y.cell(9, 3), 0);
        due.is("the pillars are seen", y.count(5), 3);
    }

    /** Hides the cell 3, which a lamp lights or not, behind a wall in 1. */
    private static PillarLight hidden(int fuel) {
        PillarLight x = new PillarLight();
        x.put(1, WALL);
        x.lamp(3, 1, 9);
        x.fill(0, fuel);
        return x;
    }

    private void eachChangeIsRemembered() {
        due.sentence(0, "Behind each change all cells that the walker sees are remembered");
        for (int change = 0; change <= 8; change++) {
            PillarLight x = hidden(9);
            due.is("hidden before change " + change, x.cell(3, 4), 0);
            if (change == 3 || change == 4) {
                x = new PillarLight();
                x.lamp(3, 1, 9);
                x.fill(0, 0);
                x.forget();
                due.is("dark before change " + change, x.cell(3, 4), 0);
            }
            makeSeen(x, change);
            due.is("remembered behind change " + change, x.cell(3, 4), 1);
            due.is("the next cell is not remembered", x.cell(4, 4), 0);
        }
    }

    private static void makeSeen(PillarLight x, int change) {
        switch (change) {
            case 0:
                x.put(1, FLOOR);
                break;
            case 1:
                x.put(1, GLASS);
                break;
            case 2:
                x.step(2);
                break;
            case 3:
                x.fill(0, 1);
                break;
            case 4:
                x.takeLamp(0);
                x.lamp(3, 1, 1);
                break;
            case 5:
                type(x, "2");
                x.walk();
                break;
            case 6:
                type(x, MapTest.FLOORS);
                x.load();
                break;
            case 7:
                x.put(1, FLOOR);
                x.forget();
                break;
            default:
                x.put(1, FLOOR);
                x.save();
                x.put(1, WALL);
                x.forget();
                x.restore();
                break;
        }
    }

    private void fuelIsBurntBeforeTheLook() {
        for (int fuel = 0; fuel <= 2; fuel++) {
            PillarLight x = hidden(fuel);
            x.step(2);
            due.is("remembered behind a step, with fuel " + fuel, x.cell(3, 4), fuel == 2 ? 1 : 0);
            PillarLight y = hidden(fuel);
            type(y, "22");
            y.walk();
            due.is("remembered behind a walk, with fuel " + fuel, y.cell(3, 4), fuel == 2 ? 1 : 0);
        }
        PillarLight z = new PillarLight();
        z.set(PillarLight.DIM, 2);
        z.put(1, WALL);
        z.lamp(3, 1, 9);
        z.set(PillarLight.DIM, 5);
        z.step(2);
        due.is("too dark at DIM 5", z.cell(3, 4), 0);
        z.set(PillarLight.DIM, 4);
        due.is("remembered behind set()", z.cell(3, 4), 1);
        z.set(PillarLight.TORCH, 2);
        due.is("remembered behind set() of TORCH", z.cell(24, 4), 1);
        due.is("beyond TORCH", z.cell(32, 4), 0);
    }

    private void whatIsRememberedStays() {
        due.sentence(0, "what is remembered stays so.");
        PillarLight x = new PillarLight();
        x.lamp(3, 1, 9);
        due.is("a lit cell", x.cell(3, 4), 1);
        x.put(1, WALL);
        due.is("behind a wall", x.cell(3, 4), 1);
        x.put(3, CURTAIN);
        due.is("with another kind and no lamp", x.cell(3, 4), 1);
        x.set(PillarLight.DIM, 20);
        x.set(PillarLight.TORCH, 0);
        x.step(2);
        x.step(2);
        type(x, MapTest.FLOORS);
        x.load();
        type(x, "22");
        x.walk();
        due.is("far away", x.cell(3, 4), 1);
        int[] want = {0, 1, 3, 8, 9, 16, 24, 32};
        for (int cell : want) {
            due.is("cell(" + cell + ", 4)", x.cell(cell, 4), 1);
        }
        due.is("remembered", x.count(6), want.length);
        due.is("seen", x.count(5), 1);
    }

    private void memoryAtTheBeginning() {
        due.sentence(0, "(At the beginning those that the walker sees are remembered.)");
        PillarLight x = new PillarLight();
        due.is("count(6)", x.count(6), 4);
        for (int cell = 0; cell < 64; cell++) {
            due.is("cell(" + cell + ", 4)", x.cell(cell, 4), x.cell(cell, 3));
        }
        due.is("count(6) behind looks", x.count(6), 4);
    }

    private void aStepThatThereIsNot() {
        due.sentence(7, "NOT_POSSIBLE if there is no such step.");
        for (int kind = 0; kind <= 3; kind++) {
            int[] beside = {19, 28, 35, 26};
            for (int direction = 0; direction <= 3; direction++) {
                PillarLight x = EdgeMapTest.walkerAt(27);
                x.put(beside[direction], kind);
                int steps = x.count(10);
                boolean open = kind == FLOOR || kind == CURTAIN;
                due.is("step(" + direction + ") to kind " + kind, x.step(direction), open ? beside[direction] : -2);
                due.is("count(9)", x.count(9), open ? beside[direction] : 27);
                due.is("count(10)", x.count(10), open ? steps + 1 : steps);
            }
        }
        PillarLight y = new PillarLight();
        y.put(1, WALL);
        y.put(8, GLASS);
        for (int direction = -1; direction <= 4; direction++) {
            boolean is = direction >= 0 && direction <= 3;
            due.is("step(" + direction + ") between pillars", y.step(direction), is ? -2 : -1);
        }
    }

    private void aStepTellsTheCell() {
        due.sentence(7, "Returns the cell where the walker is then");
        PillarLight x = new PillarLight();
        int[] directions = {1, 1, 2, 3, 0, 2, 2, 1};
        int[] cells = {1, 2, 10, 9, 1, 9, 17, 18};
        for (int i = 0; i < directions.length; i++) {
            due.is("step(" + directions[i] + ")", x.step(directions[i]), cells[i]);
            due.is("count(9)", x.count(9), cells[i]);
            due.is("count(10)", x.count(10), i + 1);
        }
    }

    private void forgetLeavesWhatIsSeen() {
        due.sentence(8, "Forgets all that is remembered, but what the walker sees now.");
        PillarLight x = EdgeMapTest.walkerAt(63);
        x.lamp(7, 1, 9);
        x.forget();
        for (int cell = 0; cell < 64; cell++) {
            boolean seen = cell == 7 || cell == 54 || cell == 55 || cell == 62 || cell == 63;
            due.is("cell(" + cell + ", 4)", x.cell(cell, 4), seen ? 1 : 0);
        }
        due.is("count(6)", x.count(6), 5);
        x.fill(0, 0);
        due.is("remembered without light", x.cell(7, 4), 1);
        x.forget();
        due.is("forgotten without light", x.cell(7, 4), 0);
        x.set(PillarLight.TORCH, 0);
        x.forget();
        due.is("count(6) at TORCH 0", x.count(6), 1);
        due.is("cell(63, 4)", x.cell(63, 4), 1);
        due.is("cell(0, 4)", x.cell(0, 4), 0);
    }

    private void forgetTellsHowMany() {
        due.sentence(8, "Returns how many cells were remembered.");
        PillarLight x = new PillarLight();
        due.is("forget() at first", x.forget(), 4);
        due.is("forget() of nothing more", x.forget(), 4);
        x.lamp(27, 9, 9);
        x.set(PillarLight.DIM, 1);
        due.is("count(6)", x.count(6), 64);
        x.takeLamp(0);
        due.is("forget() of all", x.forget(), 64);
        due.is("forget() then", x.forget(), 4);
        x.set(PillarLight.TORCH, 0);
        due.is("forget() of four", x.forget(), 4);
        due.is("forget() of one", x.forget(), 1);
    }

    private void aWalkGoesOneStepAfterTheOther() {
        due.sentence(13, "The walker makes the steps of the pad, one after the other, up to the first one that there is "
                + "not, and the pad is emptied.");
        PillarLight x = new PillarLight();
        x.lamp(40, 1, 99);
        type(x, "13".repeat(40));
        due.is("walk() of 80 steps", x.walk(), 80);
        due.is("count(9)", x.count(9), 0);
        due.is("count(10)", x.count(10), 80);
        due.is("fuel", x.lampOf(0, 4), 19);
        due.is("the pad", x.count(16), 0);
        type(x, "2");
        due.is("walk() of one step", x.walk(), 1);
        due.is("count(9)", x.count(9), 8);
        due.is("count(10)", x.count(10), 81);
        type(x, "11112222330");
        due.is("walk() round", x.walk(), 11);
        due.is("count(9)", x.count(9), 34);
    }

    private void aWalkEndsAtTheFirstStepThatThereIsNot() {
        String[] texts = {"0", "3", "01", "1111111111", "2222222222", "130", "1120", "21"};
        int[] made = {0, 0, 0, 7, 7, 2, 1, 1};
        int[] cells = {0, 0, 0, 7, 56, 0, 1, 8};
        for (int i = 0; i < texts.length; i++) {
            PillarLight x = new PillarLight();
            x.lamp(63, 9, 50);
            if (i >= 5) {
                x.put(2, WALL);
                x.put(9, GLASS);
            }
            type(x, texts[i]);
            due.is("walk() of " + texts[i], x.walk(), made[i]);
            due.is("count(9)", x.count(9), cells[i]);
            due.is("count(10)", x.count(10), made[i]);
            due.is("fuel", x.lampOf(0, 4), 50 - made[i]);
            due.is("the pad", x.count(16), 0);
            due.is("fault(1)", x.fault(1), 0);
        }
    }

    private void aWalkIsRememberedStepByStep() {
        due.sentence(13, "(What is seen behind each step is remembered.)");
        PillarLight x = new PillarLight();
        x.set(PillarLight.TORCH, 0);
        x.forget();
        type(x, "112230");
        due.is("walk()", x.walk(), 6);
        int[] want = {0, 1, 2, 10, 18, 17, 9};
        for (int cell : want) {
            due.is("cell(" + cell + ", 4)", x.cell(cell, 4), 1);
        }
        due.is("count(6)", x.count(6), want.length);
        // Seen in the middle of the walk alone: before, a wall hides it, and then its fuel is burnt.
        PillarLight y = hidden(2);
        type(y, "20");
        due.is("walk() there and back", y.walk(), 2);
        due.is("a lamp that burnt out on the way", y.cell(3, 4), 1);
        due.is("it is not seen now", y.cell(3, 3), 0);
    }

    private void aWalkIsOneChange() {
        due.sentence(13, "This is one change, also if no step is made.");
        PillarLight x = new PillarLight();
        type(x, "112");
        x.walk();
        due.is("states behind three steps", x.count(17), 1);
        due.is("undo()", x.undo(), 0);
        due.is("count(9)", x.count(9), 0);
        due.is("count(10)", x.count(10), 0);
        due.is("count(6)", x.count(6), 4);
        type(x, "0");
        due.is("walk() of no step", x.walk(), 0);
        due.is("states behind no step", x.count(17), 1);
        type(x, "333");
        due.is("walk() of no step again", x.walk(), 0);
        due.is("states behind no step again", x.count(17), 2);
        due.is("undo()", x.undo(), 1);
        due.is("the pad is not undone", x.count(16), 0);
    }

    private void aWalkWithAFault() {
        due.sentence(13, "Returns how many steps are made; NOT_POSSIBLE if the pad has a fault, read as a walk.");
        String[] wrong = {"", "4", "/", "1111111x", "12.", "a1", MapTest.FLOORS, "13".repeat(39) + "14"};
        for (String text : wrong) {
            PillarLight x = new PillarLight();
            x.lamp(9, 1, 9);
            type(x, text);
            due.is("walk() of " + text, x.walk(), -2);
            due.is("the pad stays", x.count(16), text.length());
            due.is("count(9)", x.count(9), 0);
            due.is("count(10)", x.count(10), 0);
            due.is("fuel", x.lampOf(0, 4), 9);
            due.is("states", x.count(17), 1);
        }
    }
}

/** Promises 25, 26 and 27: undo, save, restore; and that errors change nothing. */
public final class HistoryTest {
    public static void main(String[] args) {
        Due due = new Due("HistoryTest");
        fourStates(due);
        undoTakesAllBack(due);
        undoLeavesPadAndSnapshot(due);
        snapshots(due);
        restoreIsAChange(due);
        errorsChangeNothing(due);
        due.close();
    }

    private static void fourStates(Due due) {
        PillarLight x = new PillarLight();
        due.is("undo() at first", x.undo(), -2);
        for (int value = 4; value <= 9; value++) {
            x.set(0, value);
            due.is("states", x.count(17), Math.min(4, value - 3));
        }
        for (int states = 3; states >= 0; states--) {
            due.is("undo()", x.undo(), states);
            due.is("DIM", x.count(14), states + 5);
        }
        due.is("undo() of the dropped", x.undo(), -2);
        due.is("DIM", x.count(14), 5);
        x.set(0, 12);
        due.is("states", x.count(17), 1);
        due.is("undo()", x.undo(), 0);
        due.is("DIM", x.count(14), 5);
    }

    private static void undoTakesAllBack(Due due) {
        for (int change = 0; change < 10; change++) {
            PillarLight x = new PillarLight();
            x.lamp(20, 3, 30);
            x.lamp(30, 4, 40);
            String before = Told.all(x);
            x.save();
            change(x, change);
            due.is("states behind change " + change, x.count(17), 3);
            due.is("undo() of change " + change, x.undo(), 2);
            due.isText("what is told behind undo of change " + change, Told.all(x), before);
        }
    }

    private static void change(PillarLight x, int change) {
        switch (change) {
            case 0: x.put(20, 1); break;
            case 1: x.lamp(50, 1, 1); break;
            case 2: x.takeLamp(0); break;
            case 3: x.fill(1, 7); break;
            case 4: x.set(1, 4); break;
            case 5: x.step(2); break;
            case 6: x.restore(); break;
            case 7:
                MapTest.type(x, "121");
                x.walk();
                break;
            case 8:
                MapTest.type(x, MapTest.FLOORS.replace("./", "#/"));
                x.load();
                break;
            default: x.forget(); break;
        }
    }

    private static void undoLeavesPadAndSnapshot(Due due) {
        PillarLight x = new PillarLight();
        x.set(0, 4);
        x.append(49);
        due.is("append is no change", x.count(17), 1);
        due.is("save()", x.save(), 0);
        due.is("save is no change", x.count(17), 1);
        due.is("undo()", x.undo(), 0);
        due.is("the pad stays", x.count(16), 1);
        due.is("restore()", x.restore(), 0);
        due.is("the snapshot stayed", x.count(14), 4);
        x.clear();
        due.is("clear is no change", x.count(17), 1);
    }

    private static void snapshots(Due due) {
        PillarLight x = new PillarLight();
        due.is("restore() at first", x.restore(), -2);
        x.lamp(20, 3, 30);
        x.put(40, 2);
        x.set(1, 2);
        x.step(1);
        String before = Told.all(x);
        due.is("save()", x.save(), 1);
        x.append(50);
        x.takeLamp(0);
        x.put(41, 1);
        x.set(0, 9);
        x.step(2);
        x.forget();
        due.is("restore()", x.restore(), 1);
        due.isText("what is told behind restore()", Told.all(x), before);
        due.is("the pad stays", x.count(16), 1);
        due.is("states", x.count(17), 4);
        x.step(2);
        due.is("restore() again", x.restore(), 1);
        due.isText("what is told behind it", Told.all(x), before);
        x.step(2);
        due.is("save() in place of it", x.save(), 9);
        x.step(2);
        due.is("restore() of the new one", x.restore(), 9);
        due.is("steps", x.count(10), 2);
    }

    private static void restoreIsAChange(Due due) {
        PillarLight x = new PillarLight();
        x.save();
        due.is("restore() of the same", x.restore(), 0);
        due.is("states", x.count(17), 1);
        x.step(1);
        x.put(60, 1);
        due.is("restore()", x.restore(), 0);
        due.is("the map then", x.cell(60, 0), 0);
        due.is("undo()", x.undo(), 3);
        due.is("the map before", x.cell(60, 0), 1);
        due.is("the walker before", x.count(9), 1);
        due.is("the snapshot does not follow the map", x.restore(), 0);
    }

    private static void errorsChangeNothing(Due due) {
        PillarLight x = new PillarLight();
        x.put(1, 1);
        x.lamp(20, 3, 3);
        x.append(65);
        String before = Told.all(x);
        int[] answers = {x.put(0, 1), x.put(64, 1), x.lamp(20, 1, 1), x.lamp(1, 1, 1), x.lamp(2, 0, 1),
            x.takeLamp(1), x.fill(0, 100), x.set(0, 0), x.set(2, 2), x.step(1), x.step(9), x.append(32),
            x.load(), x.walk(), x.restore()};
        for (int answer : answers) {
            due.holds("each is an error", answer == -1 || answer == -2);
        }
        due.isText("what is told behind errors", Told.all(x), before);
        due.is("states", x.count(17), 2);
        due.is("the pad", x.count(16), 1);
    }
}

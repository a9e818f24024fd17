/** The terms of changes and errors, promises 25 to 27: a test of each sentence that names an edge. */
public final class EdgeChangeTest {
    private static final int WALL = 1, GLASS = 2, CURTAIN = 3;

    private final Due due = new Due("EdgeChangeTest");

    public static void main(String[] args) {
        EdgeChangeTest test = new EdgeChangeTest();
        test.eachChangeIsRecorded();
        test.whatIsNoChange();
        test.changesOfNothingAreRecorded();
        test.atMostFourStates();
        test.theOldestIsDropped();
        test.thePadAndTheSnapshotAreNotRecorded();
        test.theFirstErrorIsReturned();
        test.errorsChangeNothing();
        test.undoOfEachChange();
        test.undoWithoutAState();
        test.saveTakesThePlaceOfTheOldOne();
        test.saveTellsTheWalkersCell();
        test.theSnapshotStays();
        test.theSnapshotHoldsAllButPadAndHistory();
        test.restoreWithoutASnapshot();
        test.due.close();
    }

    private static void type(PillarLight x, String text) {
        MapTest.type(x, text);
    }

    /** Two lamps, each kind of cell, a walker who has gone on, and a snapshot, in six changes. */
    private static PillarLight prepared() {
        PillarLight x = new PillarLight();
        type(x, ".......#/......=./.....~../......../......../......../......../........");
        x.load();
        x.lamp(20, 3, 30);
        x.lamp(30, 4, 40);
        x.step(1);
        x.save();
        x.set(PillarLight.DIM, 4);
        x.step(2);
        return x;
    }

    /** Makes a change in the prepared object; each of the ten calls that are changes has one. */
    private static int change(PillarLight x, int change) {
        switch (change) {
            case 0:
                return x.put(20, WALL);
            case 1:
                return x.lamp(50, 9, 9);
            case 2:
                return x.takeLamp(0);
            case 3:
                return x.fill(1, 7);
            case 4:
                return x.step(1);
            case 5:
                return x.set(PillarLight.TORCH, 4);
            case 6:
                type(x, "......../......../....~.../......../......../......../......../.......=");
                return x.load();
            case 7:
                type(x, "112230");
                return x.walk();
            case 8:
                return x.forget();
            default:
                return x.restore();
        }
    }

    private void eachChangeIsRecorded() {
        due.sentence(0, "The changes are the calls of put, lamp, takeLamp, fill, step, set, load, walk, forget and restore "
                + "that return no error.");
        for (int change = 0; change <= 9; change++) {
            PillarLight x = new PillarLight();
            x.lamp(20, 3, 30);
            x.lamp(30, 4, 40);
            x.step(1);
            x.save();
            due.is("states before change " + change, x.count(17), 3);
            due.holds("change " + change + " is no error", change(x, change) >= 0);
            due.is("states behind change " + change, x.count(17), 4);
            due.is("undo() of change " + change, x.undo(), 3);
        }
    }

    private void whatIsNoChange() {
        PillarLight x = new PillarLight();
        x.put(63, WALL);
        x.append('.');
        x.clear();
        x.append('0');
        x.fault(0);
        x.fault(1);
        due.is("states behind append, clear and fault", x.count(17), 1);
        x.save();
        due.is("states behind save", x.count(17), 1);
        x.undo();
        due.is("states behind undo", x.count(17), 0);
        for (int what = 0; what <= 7; what++) {
            x.cell(0, what);
            x.count(what);
            x.lampOf(0, what);
            x.ifPut(5, what, 0);
            x.sees(0, what, 0);
            x.stops(0, what);
            x.exposure(what, 0);
            x.way(what, 0);
            x.bestLamp(what);
        }
        x.litShare();
        x.darkIn();
        due.is("states behind looks", x.count(17), 0);
        due.is("undo() behind looks", x.undo(), -2);
    }

    private void changesOfNothingAreRecorded() {
        due.sentence(0, "each change records everything before it but the pad and the snapshot (also if nothing is different "
                + "then)");
        for (int change = 0; change <= 6; change++) {
            PillarLight x = new PillarLight();
            x.lamp(5, 1, 7);
            x.save();
            String before = Told.all(x);
            due.holds("change " + change + " of nothing is no error", changeNothing(x, change) >= 0);
            due.isText("what is told behind change " + change + " of nothing", Told.all(x), before);
            due.is("states behind it", x.count(17), 2);
            due.is("undo()", x.undo(), 1);
            due.is("undo() of the lamp", x.undo(), 0);
            due.is("undo() of no more", x.undo(), -2);
            due.is("lamps", x.count(8), 0);
        }
    }

    private static int changeNothing(PillarLight x, int change) {
        switch (change) {
            case 0:
                return x.put(0, 0);
            case 1:
                return x.fill(0, 7);
            case 2:
                return x.set(PillarLight.DIM, 3);
            case 3:
                return x.set(PillarLight.TORCH, 1);
            case 4:
                type(x, MapTest.FLOORS);
                return x.load();
            case 5:
                type(x, "0");
                return x.walk();
            default:
                // Nothing has come to what is remembered since the snapshot, nor can be forgotten.
                return x.restore();
        }
    }

    private void atMostFourStates() {
        due.sentence(0, "A history of at most 4 states is kept");
        for (int changes = 0; changes <= 9; changes++) {
            PillarLight x = new PillarLight();
            for (int value = 1; value <= changes; value++) {
                x.set(PillarLight.DIM, 4 + value);
                due.is("states behind " + value, x.count(17), Math.min(4, value));
            }
            int states = Math.min(4, changes);
            for (int left = states - 1; left >= 0; left--) {
                due.is("undo() behind " + changes, x.undo(), left);
                due.is("count(17)", x.count(17), left);
            }
            due.is("undo() of no more", x.undo(), -2);
            due.is("DIM then", x.count(14), changes <= 4 ? 3 : changes);
        }
    }

    private void theOldestIsDropped() {
        due.sentence(0, "if there are 5 states then, the oldest one is dropped.");
        PillarLight x = new PillarLight();
        for (int cell = 1; cell <= 5; cell++) {
            x.put(cell, WALL);
        }
        for (int cell = 5; cell >= 2; cell--) {
            due.is("undo()", x.undo(), cell - 2);
            due.is("kind of " + cell, x.cell(cell, 0), 0);
            due.is("kind of " + (cell - 1), x.cell(cell - 1, 0), WALL);
        }
        due.is("undo() of the oldest", x.undo(), -2);
        due.is("the oldest change stays", x.cell(1, 0), WALL);
        // Undone and made again, twice round the limit.
        PillarLight y = new PillarLight();
        for (int round = 0; round < 12; round++) {
            y.set(PillarLight.DIM, 5 + round);
            y.set(PillarLight.TORCH, round % 5);
            due.is("undo()", y.undo(), Math.min(3, round + 1));
            due.is("TORCH", y.count(15), 1);
            due.is("DIM", y.count(14), 5 + round);
        }
    }

    private void thePadAndTheSnapshotAreNotRecorded() {
        PillarLight x = new PillarLight();
        x.put(63, WALL);
        x.append('1');
        x.append('1');
        x.save();
        x.step(2);
        x.append('2');
        due.is("undo()", x.undo(), 1);
        due.is("undo()", x.undo(), 0);
        due.is("the pad behind undo", x.count(16), 3);
        due.is("walk() of the pad behind undo", x.walk(), 3);
        due.is("count(9)", x.count(9), 10);
        due.is("undo() of walk()", x.undo(), 0);
        due.is("the pad behind undo of walk()", x.count(16), 0);
        due.is("restore() behind undo", x.restore(), 0);
        due.is("the snapshot behind undo", x.cell(63, 0), WALL);
        due.is("undo() of restore()", x.undo(), 0);
        due.is("the map behind it", x.cell(63, 0), 0);
        due.is("restore() behind undo of restore()", x.restore(), 0);
        due.is("the snapshot behind it", x.cell(63, 0), WALL);
    }

    private void theFirstErrorIsReturned() {
        due.sentence(0, "If several errors apply to a call, INVALID_ARGUMENT is returned rather than NOT_POSSIBLE, "
                + "NOT_POSSIBLE rather than LIMIT_REACHED, and LIMIT_REACHED rather than NOT_FOUND.");
        PillarLight x = new PillarLight();
        x.put(1, WALL);
        x.put(8, GLASS);
        x.put(9, CURTAIN);
        for (int lamp = 0; lamp < 6; lamp++) {
            x.lamp(20 + lamp, 1, 1);
        }
        due.is("put off the map of a wall", x.put(-1, WALL), -1);
        due.is("put of no kind at the walker", x.put(0, 4), -1);
        due.is("lamp of no strength in a wall, with 6", x.lamp(1, 0, 1), -1);
        due.is("lamp of no fuel in a lamp's cell, with 6", x.lamp(20, 1, 0), -1);
        due.is("lamp off the map, with 6", x.lamp(64, 1, 1), -1);
        due.is("lamp in a wall, with 6", x.lamp(1, 1, 1), -2);
        due.is("lamp in a curtain, with 6", x.lamp(9, 1, 1), -2);
        due.is("lamp in a lamp's cell, with 6", x.lamp(25, 1, 1), -2);
        due.is("lamp in a floor, with 6", x.lamp(30, 1, 1), -3);
        due.is("step in no direction between pillars", x.step(4), -1);
        due.is("step between pillars", x.step(1), -2);
        type(x, "1".repeat(80));
        due.is("append of no character to 80", x.append(32), -1);
        due.is("append to 80", x.append(33), -3);
        due.is("fault of 80 digits in no way", x.fault(2), -1);
        due.is("cell off the map, for a lamp", x.cell(64, 6), -1);
        due.is("stops off the map", x.stops(0, 64), -1);
        due.is("exposure in no way, without a way", x.exposure(63, 2), -1);
        due.is("exposure without a way", x.exposure(63, 1), -4);
        due.is("way of index -1, without a way", x.way(63, -1), -1);
        due.is("way without a way", x.way(63, 0), -4);
        due.is("ifPut of a wall at the walker for nothing", x.ifPut(0, WALL, 3), -1);
        due.is("ifPut of a wall at the walker", x.ifPut(0, WALL, 2), -2);
        due.is("bestLamp of no strength", x.bestLamp(0), -1);
        due.sentence(0, "If there is no cell or lamp of a certain number, this is INVALID_ARGUMENT.");
        due.is("lampOf(6, 0)", x.lampOf(6, 0), -1);
        due.is("takeLamp(6)", x.takeLamp(6), -1);
        due.is("fill(6, 1)", x.fill(6, 1), -1);
        due.is("cell(64, 0)", x.cell(64, 0), -1);
        due.is("sees(64, 0, 0)", x.sees(64, 0, 0), -1);
        due.is("sees(0, 64, 1)", x.sees(0, 64, 1), -1);
    }

    /** Makes a call that returns an error in full(), and 0 behind the last one. */
    private static int callWithError(PillarLight x, int call) {
        switch (call) {
            case 0: return x.put(0, WALL);
            case 1: return x.put(0, GLASS);
            case 2: return x.put(64, 0);
            case 3: return x.put(5, 4);
            case 4: return x.put(-1, -1);
            case 5: return x.lamp(64, 1, 1);
            case 6: return x.lamp(40, 0, 1);
            case 7: return x.lamp(40, 1, 100);
            case 8: return x.lamp(1, 1, 1);
            case 9: return x.lamp(20, 1, 1);
            case 10: return x.lamp(40, 1, 1);
            case 11: return x.takeLamp(6);
            case 12: return x.takeLamp(-1);
            case 13: return x.fill(6, 5);
            case 14: return x.fill(0, 100);
            case 15: return x.set(0, 21);
            case 16: return x.set(1, 5);
            case 17: return x.set(2, 1);
            case 18: return x.step(4);
            case 19: return x.step(1);
            case 20: return x.append(32);
            case 21: return x.append('0');
            case 22: return x.fault(2);
            case 23: return x.load();
            case 24: return x.walk();
            case 25: return x.restore();
            default: return lookWithError(x, call - 26);
        }
    }

    private static int lookWithError(PillarLight x, int look) {
        switch (look) {
            case 0: return x.cell(64, 0);
            case 1: return x.cell(0, 8);
            case 2: return x.cell(0, 6);
            case 3: return x.sees(0, 0, 2);
            case 4: return x.stops(0, -1);
            case 5: return x.stops(0, 0);
            case 6: return x.lampOf(6, 0);
            case 7: return x.lampOf(0, 5);
            case 8: return x.count(18);
            case 9: return x.exposure(0, 2);
            case 10: return x.exposure(1, 0);
            case 11: return x.exposure(1, 1);
            case 12: return x.way(0, -1);
            case 13: return x.way(1, 0);
            case 14: return x.way(0, 1);
            case 15: return x.ifPut(0, WALL, 0);
            case 16: return x.ifPut(5, 4, 0);
            case 17: return x.bestLamp(10);
            default: return 0;
        }
    }

    /** Six lamps, a wall beside the walker, and a pad that is full, with a fault in both ways. */
    private static PillarLight full() {
        PillarLight x = new PillarLight();
        x.put(1, WALL);
        for (int lamp = 0; lamp < 6; lamp++) {
            x.lamp(20 + lamp, 1 + lamp, 9 + lamp);
        }
        x.step(2);
        x.step(0);
        type(x, "2".repeat(79) + "4");
        return x;
    }

    private void errorsChangeNothing() {
        due.sentence(0, "A call that returns an error changes nothing (the pad stays, too).");
        PillarLight unchanged = full();
        String before = Told.all(unchanged) + Told.brief(unchanged);
        String behind = behind(full());
        for (int call = 0; call < 26 + 18; call++) {
            PillarLight x = full();
            due.holds("call " + call + " is an error", callWithError(x, call) < 0);
            due.isText("what is told behind call " + call, Told.all(x) + Told.brief(x), before);
            PillarLight y = full();
            callWithError(y, call);
            due.isText("what comes behind call " + call, behind(y), behind);
        }
        PillarLight z = new PillarLight();
        type(z, "12");
        before = Told.all(z);
        due.is("undo() without a state", z.undo(), -2);
        due.isText("what is told behind it", Told.all(z), before);
        due.is("walk() behind it", z.walk(), 2);
    }

    /** Tells the pad, the snapshot and the states by using them up. */
    private static String behind(PillarLight x) {
        StringBuilder told = new StringBuilder();
        told.append(x.fault(0)).append(' ').append(x.fault(1)).append(' ').append(x.restore()).append(' ');
        for (int state = 0; state < 5; state++) {
            told.append(x.undo()).append(": ").append(Told.brief(x));
        }
        return told.toString();
    }

    private void undoOfEachChange() {
        due.sentence(25, "Undoes the latest change: everything but the pad and the snapshot is as it was before it.");
        String before = Told.all(prepared());
        for (int change = 0; change <= 9; change++) {
            PillarLight x = prepared();
            change(x, change);
            due.is("undo() of change " + change, x.undo(), 3);
            due.isText("what is told behind undo of change " + change, Told.all(x), before);
        }
        for (int change = 0; change <= 9; change++) {
            PillarLight x = prepared();
            change(x, change);
            due.holds("change " + change + " makes a difference", !Told.all(x).equals(before));
        }
    }

    private void undoWithoutAState() {
        due.sentence(25, "Returns how many states the history has then; NOT_POSSIBLE if it has none.");
        PillarLight x = new PillarLight();
        due.is("undo() at first", x.undo(), -2);
        x.forget();
        due.is("undo() of one", x.undo(), 0);
        due.is("undo() again", x.undo(), -2);
        x.step(0);
        due.is("undo() behind an error", x.undo(), -2);
        x.save();
        x.append('0');
        due.is("undo() behind save and append", x.undo(), -2);
        for (int change = 0; change < 7; change++) {
            x.forget();
        }
        for (int left = 3; left >= 0; left--) {
            due.is("undo()", x.undo(), left);
        }
        due.is("undo() of a fifth", x.undo(), -2);
        due.is("undo() of a sixth", x.undo(), -2);
    }

    private void saveTakesThePlaceOfTheOldOne() {
        due.sentence(26, "Takes a snapshot of everything but the pad and the history, in place of the one that was.");
        PillarLight x = new PillarLight();
        x.save();
        x.put(63, WALL);
        x.lamp(9, 2, 2);
        x.save();
        x.put(63, GLASS);
        x.takeLamp(0);
        x.restore();
        due.is("the map of the second one", x.cell(63, 0), WALL);
        due.is("the lamp of the second one", x.lampOf(0, 0), 9);
        x.undo();
        x.undo();
        x.undo();
        x.undo();
        due.is("restore() behind four undos", x.restore(), 0);
        due.is("the map of the second one", x.cell(63, 0), WALL);
        due.is("states", x.count(17), 1);
    }

    private void saveTellsTheWalkersCell() {
        due.sentence(26, "Returns the walker's cell.");
        int[] cells = {0, 7, 27, 56, 63};
        for (int cell : cells) {
            PillarLight x = EdgeMapTest.walkerAt(cell);
            String before = Told.all(x) + Told.brief(x);
            due.is("save() in " + cell, x.save(), cell);
            due.is("save() again", x.save(), cell);
            due.isText("what is told behind save()", Told.all(x) + Told.brief(x), before);
        }
    }

    private void theSnapshotStays() {
        due.sentence(27, "Restores the snapshot, which stays.");
        String saved = Told.all(savedThenChanged(0));
        for (int changes = 1; changes <= 3; changes++) {
            PillarLight x = savedThenChanged(changes);
            for (int change = 0; change < changes; change++) {
                due.is("restore() " + change, x.restore(), 1);
                x.put(40 + change, WALL);
                x.step(1);
                x.fill(0, 1);
                x.set(PillarLight.DIM, 20);
            }
            due.is("restore() at last", x.restore(), 1);
            due.isText("what is told behind restore()", Told.all(x), saved);
        }
    }

    private static PillarLight savedThenChanged(int changes) {
        PillarLight x = new PillarLight();
        x.step(1);
        x.lamp(20, 9, 9);
        x.put(30, CURTAIN);
        x.set(PillarLight.TORCH, 2);
        x.save();
        for (int change = 0; change < changes; change++) {
            x.step(2);
            x.put(20, WALL);
            x.forget();
        }
        return x;
    }

    private void theSnapshotHoldsAllButPadAndHistory() {
        PillarLight x = savedThenChanged(2);
        x.append('1');
        due.is("states", x.count(17), 4);
        due.is("restore()", x.restore(), 1);
        due.is("the pad stays", x.count(16), 1);
        due.is("states then", x.count(17), 4);
        due.is("undo()", x.undo(), 3);
        due.is("the map before", x.cell(20, 0), WALL);
        due.is("the walker before", x.count(9), 17);
        due.is("the steps before", x.count(10), 3);
        PillarLight y = new PillarLight();
        y.append('2');
        y.save();
        y.clear();
        due.is("restore()", y.restore(), 0);
        due.is("the pad is not restored", y.count(16), 0);
        due.is("one state", y.count(17), 1);
        due.is("undo()", y.undo(), 0);
        PillarLight z = new PillarLight();
        z.forget();
        z.forget();
        z.save();
        z.undo();
        z.undo();
        due.is("restore()", z.restore(), 0);
        due.is("the history is not restored", z.count(17), 1);
    }

    private void restoreWithoutASnapshot() {
        due.sentence(27, "Returns the walker's cell then; NOT_POSSIBLE if there is none.");
        PillarLight x = new PillarLight();
        due.is("restore() at first", x.restore(), -2);
        x.step(1);
        due.is("restore() behind a step", x.restore(), -2);
        due.is("states", x.count(17), 1);
        due.is("save()", x.save(), 1);
        x.step(2);
        due.is("restore()", x.restore(), 1);
        due.is("count(9)", x.count(9), 1);
        due.is("count(10)", x.count(10), 1);
        x.undo();
        due.is("count(9) behind undo", x.count(9), 9);
        x.undo();
        x.undo();
        due.is("count(9) behind three undos", x.count(9), 0);
        due.is("restore() behind three undos", x.restore(), 1);
        due.is("another object has no snapshot", new PillarLight().restore(), -2);
    }
}

import java.util.ArrayList;
import java.util.List;

/** Each argument of each call: all numbers of its range, those round it, and those that a narrow type would fold in. */
public final class EdgeRangeTest {
    private interface Call {
        int with(PillarLight x, int value);
    }

    private final Due due = new Due("EdgeRangeTest");

    public static void main(String[] args) {
        EdgeRangeTest test = new EdgeRangeTest();
        test.changesOfTheMap();
        test.changesOfLamps();
        test.settings();
        test.walkerAndTexts();
        test.cellsAndLines();
        test.lampsAndCounts();
        test.waysAndWhatWouldBe();
        test.due.close();
    }

    /** Two lamps, a wall, and a pad that is a walk: each call with good arguments answers no INVALID_ARGUMENT. */
    private static PillarLight prepared() {
        PillarLight x = new PillarLight();
        x.put(10, 1);
        x.lamp(20, 5, 50);
        x.lamp(21, 5, 50);
        x.append('1');
        return x;
    }

    private static List<Integer> values(int low, int high) {
        List<Integer> values = new ArrayList<>();
        for (int value = low - 270; value <= high + 270; value++) {
            values.add(value);
        }
        for (int bit = 9; bit <= 31; bit++) {
            values.add(low + (1 << bit));
            values.add(high - (1 << bit));
        }
        for (int far = 0; far < 3; far++) {
            values.add(Integer.MIN_VALUE + far);
            values.add(Integer.MAX_VALUE - far);
        }
        return values;
    }

    private void range(int promise, String words, int low, int high, Call call) {
        due.sentence(promise, words);
        String before = Told.brief(prepared());
        for (int value : values(low, high)) {
            PillarLight x = prepared();
            int answer = call.with(x, value);
            if (value >= low && value <= high) {
                due.holds(value + " is no INVALID_ARGUMENT", answer != -1);
            } else {
                due.is("the call with " + value, answer, -1);
                due.isText("what is told behind " + value, Told.brief(x), before);
            }
        }
    }

    private void changesOfTheMap() {
        range(2, "`cell`: 0 to 63", 0, 63, (x, cell) -> x.put(cell, 0));
        range(2, "`cell`: 0 to 63", 0, 63, (x, cell) -> x.put(cell, 1));
        range(2, "`kind`: 0 to 3", 0, 3, (x, kind) -> x.put(0, kind));
        range(2, "`kind`: 0 to 3", 0, 3, (x, kind) -> x.put(63, kind));
    }

    private void changesOfLamps() {
        range(3, "`cell`: 0 to 63", 0, 63, (x, cell) -> x.lamp(cell, 1, 1));
        range(3, "`strength`: 1 to 9", 1, 9, (x, strength) -> x.lamp(30, strength, 1));
        range(3, "`strength`: 1 to 9", 1, 9, (x, strength) -> x.lamp(10, strength, 1));
        range(3, "`fuel`: 1 to 99", 1, 99, (x, fuel) -> x.lamp(30, 1, fuel));
        range(3, "`fuel`: 1 to 99", 1, 99, (x, fuel) -> x.lamp(20, 1, fuel));
        range(4, "`lamp`: its number", 0, 1, PillarLight::takeLamp);
        range(5, "`lamp`: its number", 0, 1, (x, lamp) -> x.fill(lamp, 7));
        range(5, "`fuel`: 0 to 99: its fuel then", 0, 99, (x, fuel) -> x.fill(1, fuel));
    }

    private void settings() {
        range(6, "`what`: 0 or 1", 0, 1, (x, what) -> x.set(what, 2));
        range(6, "`value`: a value in its range", 1, 20, (x, value) -> x.set(0, value));
        range(6, "`value`: a value in its range", 0, 4, (x, value) -> x.set(1, value));
    }

    private void walkerAndTexts() {
        range(7, "`direction`: 0 to 3", 0, 3, PillarLight::step);
        range(9, "`code`: the character code, 33 to 126", 33, 126, PillarLight::append);
        range(11, "`way`: 0 if it is read as a map, 1 if it is read as a walk", 0, 1, PillarLight::fault);
    }

    private void cellsAndLines() {
        range(14, "`cell`: 0 to 63", 0, 63, (x, cell) -> x.cell(cell, 1));
        range(14, "`cell`: 0 to 63", 0, 63, (x, cell) -> x.cell(cell, 6));
        range(14, "`what`: 0", 0, 7, (x, what) -> x.cell(10, what));
        for (int way = 0; way <= 1; way++) {
            int told = way;
            range(15, "`from`: a cell", 0, 63, (x, from) -> x.sees(from, 27, told));
            range(15, "`to`: a cell", 0, 63, (x, to) -> x.sees(27, to, told));
        }
        range(15, "`way`: 0", 0, 1, (x, way) -> x.sees(0, 63, way));
        range(15, "`way`: 0", 0, 1, (x, way) -> x.sees(5, 5, way));
        range(16, "`from`: a cell", 0, 63, (x, from) -> x.stops(from, 27));
        range(16, "`to`: a cell", 0, 63, (x, to) -> x.stops(27, to));
    }

    private void lampsAndCounts() {
        for (int what = 0; what <= 4; what++) {
            int told = what;
            range(17, "`lamp`: its number", 0, 1, (x, lamp) -> x.lampOf(lamp, told));
        }
        range(17, "`what`: 0", 0, 4, (x, what) -> x.lampOf(1, what));
        range(18, "`what`: how many cells are 0", 0, 17, PillarLight::count);
    }

    private void waysAndWhatWouldBe() {
        for (int way = 0; way <= 1; way++) {
            int told = way;
            range(20, "`cell`: 0 to 63", 0, 63, (x, cell) -> x.exposure(cell, told));
        }
        range(20, "`way`: 0", 0, 1, (x, way) -> x.exposure(63, way));
        range(20, "`way`: 0", 0, 1, (x, way) -> x.exposure(10, way));
        range(21, "`cell`: 0 to 63", 0, 63, (x, cell) -> x.way(cell, 0));
        range(21, "`cell`: 0 to 63", 0, 63, (x, cell) -> x.way(cell, 99));
        indexOfAWay();
        range(22, "`cell`: as for put()", 0, 63, (x, cell) -> x.ifPut(cell, 1, 0));
        range(22, "`kind`: as for put()", 0, 3, (x, kind) -> x.ifPut(0, kind, 1));
        range(22, "`kind`: as for put()", 0, 3, (x, kind) -> x.ifPut(20, kind, 2));
        range(22, "`what`: 0", 0, 2, (x, what) -> x.ifPut(0, 1, what));
        range(22, "`what`: 0", 0, 2, (x, what) -> x.ifPut(30, 1, what));
        range(23, "`strength`: 1 to 9", 1, 9, PillarLight::bestLamp);
    }

    /** An index has no greatest number: above the way's last cell it is NOT_FOUND. */
    private void indexOfAWay() {
        due.sentence(21, "INVALID_ARGUMENT (also if index is below 0)");
        for (int index : values(0, 14)) {
            PillarLight x = prepared();
            int answer = x.way(63, index);
            if (index >= 0 && index <= 14) {
                due.holds("way(63, " + index + ") is a cell", answer >= 0);
            } else {
                due.is("way(63, " + index + ")", answer, index < 0 ? -1 : -4);
            }
            due.is("way(10, " + index + ") to a wall", x.way(10, index), index < 0 ? -1 : -4);
        }
    }
}

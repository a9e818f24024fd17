/** The terms of settings and texts, promises 6 and 9 to 11: a test of each sentence that names an edge. */
public final class EdgeTextTest {
    private static final String FLOORS = MapTest.FLOORS;

    private final Due due = new Due("EdgeTextTest");

    public static void main(String[] args) {
        EdgeTextTest test = new EdgeTextTest();
        test.settingsHaveRanges();
        test.setTellsTheValueBefore();
        test.thePadIsEmptyAtFirst();
        test.thePadHoldsAtMostEighty();
        test.appendTellsTheLength();
        test.clearTellsTheLength();
        test.aMapHasEightRows();
        test.eachSignOfAMap();
        test.eachPlaceOfAMap();
        test.theSignOfTheWalkersCell();
        test.theWalkersCellIsThatOfNow();
        test.aWalkHasOneOrMoreDigits();
        test.aFaultIsTheFirstWrongPlace();
        test.aFaultOfATextThatIsTooLong();
        test.aFaultOfATextThatIsNotComplete();
        test.faultTellsOfNone();
        test.due.close();
    }

    private static PillarLight padOf(String text) {
        PillarLight x = new PillarLight();
        for (int at = 0; at < text.length(); at++) {
            x.append(text.charAt(at));
        }
        return x;
    }

    private void fault(int way, String text, int want) {
        PillarLight x = padOf(text);
        due.is("fault(" + way + ") of " + text, x.fault(way), want);
        due.is("the pad stays", x.count(16), text.length());
    }

    private void settingsHaveRanges() {
        due.sentence(0, "(In parentheses: range; first value.) DIM (1 to 20; 3), TORCH (0 to 4; 1).");
        due.is("count(14) at first", new PillarLight().count(14), 3);
        due.is("count(15) at first", new PillarLight().count(15), 1);
        for (int value = -30; value <= 30; value++) {
            PillarLight x = new PillarLight();
            boolean dim = value >= 1 && value <= 20;
            due.is("set(0, " + value + ")", x.set(0, value), dim ? 3 : -1);
            due.is("count(14)", x.count(14), dim ? value : 3);
            due.is("states", x.count(17), dim ? 1 : 0);
            PillarLight y = new PillarLight();
            boolean torch = value >= 0 && value <= 4;
            due.is("set(1, " + value + ")", y.set(1, value), torch ? 1 : -1);
            due.is("count(15)", y.count(15), torch ? value : 1);
            due.is("states", y.count(17), torch ? 1 : 0);
        }
    }

    private void setTellsTheValueBefore() {
        due.sentence(6, "Returns the value before; INVALID_ARGUMENT.");
        PillarLight x = new PillarLight();
        due.is("set(0, 20)", x.set(0, 20), 3);
        due.is("set(0, 1)", x.set(0, 1), 20);
        due.is("set(0, 1) again", x.set(0, 1), 1);
        due.is("set(1, 0)", x.set(1, 0), 1);
        due.is("set(1, 4)", x.set(1, 4), 0);
        due.is("set(1, 5), in the range of DIM", x.set(1, 5), -1);
        due.is("set(0, 0), in the range of TORCH", x.set(0, 0), -1);
        due.is("set(2, 1)", x.set(2, 1), -1);
        due.is("set(-1, 1)", x.set(-1, 1), -1);
        due.is("set(1, 4) again", x.set(1, 4), 4);
        due.is("count(14)", x.count(14), 1);
        due.is("count(15)", x.count(15), 4);
    }

    private void thePadIsEmptyAtFirst() {
        due.sentence(0, "There is a pad of at most 80 characters, initially empty.");
        PillarLight x = new PillarLight();
        due.is("count(16)", x.count(16), 0);
        due.is("fault(0)", x.fault(0), 0);
        due.is("fault(1)", x.fault(1), 0);
        due.is("clear()", x.clear(), 0);
        due.is("load()", x.load(), -2);
        due.is("walk()", x.walk(), -2);
    }

    private void thePadHoldsAtMostEighty() {
        due.sentence(9, "LIMIT_REACHED if it has 80 characters.");
        PillarLight x = padOf("12".repeat(39));
        due.is("the 79th", x.append('1'), 79);
        due.is("the 80th", x.append('1'), 80);
        due.is("the 81st", x.append('1'), -3);
        due.is("the 81st again", x.append('x'), -3);
        due.is("one below the range with 80", x.append(32), -1);
        due.is("one above the range with 80", x.append(127), -1);
        due.is("count(16)", x.count(16), 80);
        due.is("fault(1) of 80 digits", x.fault(1), -4);
        due.is("clear()", x.clear(), 80);
        due.is("the first again", x.append('1'), 1);
        x.clear();
        MapTest.type(x, "13".repeat(40));
        due.is("walk() of 80", x.walk(), 80);
        due.is("the first behind a walk", x.append('1'), 1);
    }

    private void appendTellsTheLength() {
        due.sentence(9, "`code`: the character code, 33 to 126");
        for (int code = -10; code <= 140; code++) {
            boolean is = code >= 33 && code <= 126;
            PillarLight x = new PillarLight();
            due.is("append(" + code + ")", x.append(code), is ? 1 : -1);
            due.is("count(16)", x.count(16), is ? 1 : 0);
            due.is("append('0') then", x.append('0'), is ? 2 : 1);
        }
        int[] far = {33 + 128, 33 + 256, 46 + 256, 48 + 65536, 48 - 65536, 48 + (1 << 24), Integer.MAX_VALUE,
            Integer.MIN_VALUE};
        for (int code : far) {
            due.is("append(" + code + ")", new PillarLight().append(code), -1);
        }
    }

    private void clearTellsTheLength() {
        due.sentence(10, "Returns the length that it had.");
        int[] lengths = {0, 1, 71, 79, 80};
        for (int length : lengths) {
            PillarLight x = padOf("0".repeat(length));
            due.is("clear() of " + length, x.clear(), length);
            due.is("count(16)", x.count(16), 0);
            due.is("fault(1)", x.fault(1), 0);
            due.is("clear() again", x.clear(), 0);
            due.is("states", x.count(17), 0);
        }
    }

    private void aMapHasEightRows() {
        due.sentence(0, "A map: 8 rows with \"/\" between two, each of 8 signs: \".\" floor, \"#\" wall, \"=\" glass, \"~\" "
                + "curtain");
        fault(0, FLOORS, -4);
        fault(0, FLOORS.replace('.', '~'), -4);
        fault(0, "." + FLOORS.substring(1).replace('.', '#'), -4);
        fault(0, "~" + FLOORS.substring(1).replace('.', '='), -4);
        for (int length = 0; length < 71; length++) {
            fault(0, FLOORS.substring(0, length), length);
        }
        fault(0, ".........", 8);
        fault(0, "......./", 7);
        fault(0, "/", 0);
        fault(0, "........//", 9);
        fault(0, FLOORS + "/", 71);
        fault(0, FLOORS + ".", 71);
        fault(0, FLOORS + "/........", 71);
    }

    private void eachSignOfAMap() {
        for (int code = 33; code <= 126; code++) {
            char sign = (char) code;
            boolean ofCells = ".#=~".indexOf(sign) >= 0;
            fault(0, "..." + sign, ofCells ? 4 : 3);
            fault(0, "........" + sign, sign == '/' ? 9 : 8);
            fault(0, FLOORS.substring(0, 70) + sign, ofCells ? -4 : 70);
            fault(0, FLOORS + sign, 71);
        }
    }

    private void eachPlaceOfAMap() {
        for (int at = 0; at < 71; at++) {
            StringBuilder text = new StringBuilder(FLOORS);
            text.setCharAt(at, at % 9 == 8 ? '.' : '/');
            fault(0, text.toString(), at);
            text.setCharAt(at, at % 9 == 8 ? '#' : '0');
            fault(0, text.toString(), at);
            if (at % 9 < 8 && at > 0) {
                text.setCharAt(at, "#=~".charAt(at % 3));
                fault(0, text.toString(), -4);
            }
        }
    }

    private void theSignOfTheWalkersCell() {
        due.sentence(0, "the sign of the walker's cell of now is \".\" or \"~\".");
        for (int cell = 0; cell < 64; cell++) {
            int at = cell / 8 * 9 + cell % 8;
            for (int kind = 0; kind <= 3; kind++) {
                PillarLight x = EdgeMapTest.walkerAt(cell);
                StringBuilder text = new StringBuilder(FLOORS.replace('.', '#'));
                text.setCharAt(at, ".#=~".charAt(kind));
                MapTest.type(x, text.toString());
                due.is("fault(0) with kind " + kind + " at the walker in " + cell, x.fault(0),
                        kind == 1 || kind == 2 ? at : -4);
            }
        }
    }

    private void theWalkersCellIsThatOfNow() {
        PillarLight x = padOf("." + FLOORS.substring(1).replace('.', '#'));
        due.is("fault(0) with the walker in 0", x.fault(0), -4);
        x.step(1);
        due.is("fault(0) with the walker in 1", x.fault(0), 1);
        due.is("load() with the walker in 1", x.load(), -2);
        x.step(2);
        due.is("fault(0) with the walker in 9", x.fault(0), 10);
        x.undo();
        x.undo();
        due.is("fault(0) with the walker back in 0", x.fault(0), -4);
        x.put(0, 3);
        due.is("fault(0) with a curtain in 0", x.fault(0), -4);
        due.is("load()", x.load(), 64);
    }

    private void aWalkHasOneOrMoreDigits() {
        due.sentence(0, "A walk: one or more digits 0 to 3, the directions of steps.");
        for (int code = 33; code <= 126; code++) {
            boolean digit = code >= '0' && code <= '3';
            fault(1, String.valueOf((char) code), digit ? -4 : 0);
            fault(1, "0123" + (char) code, digit ? -4 : 4);
            fault(1, (char) code + "3210", digit ? -4 : 0);
        }
        fault(1, "", 0);
        for (int length = 1; length <= 80; length++) {
            fault(1, "3".repeat(length), -4);
        }
    }

    private void aFaultIsTheFirstWrongPlace() {
        due.sentence(0, "The fault of the pad, read in one of these ways, is the position, from 0, of the first character "
                + "that is wrong");
        fault(0, "..x..y", 2);
        fault(0, "#x", 0);
        fault(0, "x#", 0);
        fault(0, "........./", 8);
        fault(1, "1x2y", 1);
        fault(1, "xxxx", 0);
        fault(1, "4", 0);
        fault(1, "0".repeat(79) + "4", 79);
        fault(0, "0123", 0);
        fault(1, FLOORS, 0);
    }

    private void aFaultOfATextThatIsTooLong() {
        due.sentence(0, "no pad of that kind, of any length, begins with the characters before it and this character");
        fault(0, FLOORS + "/", 71);
        fault(0, FLOORS + ".........", 71);
        fault(0, FLOORS.substring(0, 70) + "x........x", 70);
        fault(1, "0".repeat(80), -4);
        // A walk that leaves the map is one all the same.
        fault(1, "0000", -4);
        fault(1, "33333333333", -4);
    }

    private void aFaultOfATextThatIsNotComplete() {
        due.sentence(0, "if there is none, and the pad is not complete (also if it is empty), the length of the pad.");
        fault(0, "", 0);
        fault(1, "", 0);
        fault(0, ".", 1);
        fault(0, "........", 8);
        fault(0, "......../", 9);
        fault(0, FLOORS.substring(0, 62), 62);
        fault(0, FLOORS.substring(0, 70), 70);
    }

    private void faultTellsOfNone() {
        due.sentence(11, "Returns the fault; INVALID_ARGUMENT; NOT_FOUND if it has none.");
        PillarLight x = padOf("0");
        due.is("fault(1)", x.fault(1), -4);
        due.is("fault(0)", x.fault(0), 0);
        due.is("fault(2) without a fault", x.fault(2), -1);
        due.is("fault(-1) without a fault", x.fault(-1), -1);
        PillarLight y = padOf(FLOORS);
        due.is("fault(0) of a map", y.fault(0), -4);
        due.is("fault(1) of a map", y.fault(1), 0);
        due.is("fault(2) of a map", y.fault(2), -1);
        PillarLight z = new PillarLight();
        due.is("fault(2) of nothing", z.fault(2), -1);
        due.is("fault(MAX) of nothing", z.fault(Integer.MAX_VALUE), -1);
        due.is("fault(MIN) of nothing", z.fault(Integer.MIN_VALUE), -1);
    }
}

/** Many runs of calls, made by a fixed row of numbers, whose answers the oracle tells too: all promises. */
public final class OracleRunsTest {
    private static final int CALLS = 512;
    /** More calls than a turn makes, so that no object is used for more than its 512. */
    private static final int TURN = 20;

    private final Due due = new Due("OracleRunsTest");
    private long seed;
    private PillarLight light;
    private Oracle oracle;
    private String run;
    private int calls;

    public static void main(String[] args) {
        int runs = args.length > 1 ? Integer.parseInt(args[1]) : 120;
        OracleRunsTest test = new OracleRunsTest();
        for (int run = 0; run < runs; run++) {
            test.makeRun(run);
        }
        test.due.close();
    }

    private int below(int bound) {
        seed = seed * 6364136223846793005L + 1442695040888963407L;
        return (int) ((seed >>> 33) % bound);
    }

    /** A number in a range, but now and then one beside it, or one far away. */
    private int about(int low, int high) {
        switch (below(24)) {
            case 0: return low - 1;
            case 1: return high + 1;
            case 2: return below(2) == 0 ? Integer.MIN_VALUE : Integer.MAX_VALUE;
            default: return low + below(high - low + 1);
        }
    }

    private void makeRun(int number) {
        seed = 1000003L * number + 17;
        light = new PillarLight();
        oracle = new Oracle();
        run = "run " + number + ", ";
        calls = 0;
        int pillars = below(24);
        if (number % 3 == 0) {
            loadMap(pillars);
        }
        for (int i = 0; number % 3 == 1 && i < pillars; i++) {
            put(below(64), 1 + below(3));
        }
        while (calls + TURN <= CALLS) {
            call(below(40));
        }
        while (calls < CALLS) {
            count(about(0, 17));
        }
    }

    private void is(String call, int got, int want) {
        calls++;
        due.is(run + "call " + calls + ": " + call, got, want);
    }

    private void put(int cell, int kind) {
        is("put(" + cell + ", " + kind + ")", light.put(cell, kind), oracle.put(cell, kind));
    }

    private void append(int code) {
        is("append(" + code + ")", light.append(code), oracle.append(code));
    }

    private void count(int what) {
        is("count(" + what + ")", light.count(what), oracle.count(what));
    }

    private void clear() {
        is("clear()", light.clear(), oracle.clear());
    }

    private void fault(int way) {
        is("fault(" + way + ")", light.fault(way), oracle.fault(way));
    }

    private void load() {
        is("load()", light.load(), oracle.load());
    }

    private void walk() {
        is("walk()", light.walk(), oracle.walk());
    }

    private void loadMap(int pillars) {
        if (calls + 90 > CALLS) {
            return;
        }
        clear();
        int walker = oracle.count(9);
        int wrongAt = below(3) == 0 ? below(71) : -1;
        for (int at = 0; at < 71; at++) {
            int kind = below(64) < pillars ? 1 + below(3) : 0;
            if (at / 9 * 8 + at % 9 == walker && (kind == 1 || kind == 2) && below(8) > 0) {
                kind = 3;
            }
            char sign = at % 9 == 8 ? '/' : ".#=~".charAt(kind);
            append(at == wrongAt ? about(33, 126) : sign);
        }
        fault(0);
        if (below(4) == 0) {
            append('.');
            fault(0);
        }
        load();
        load();
        for (int what = 0; what <= 7; what++) {
            count(what);
        }
    }

    private void takeWalk() {
        if (below(2) == 0) {
            clear();
        }
        int length = below(14);
        for (int i = 0; i < length; i++) {
            append(below(60) == 0 ? about(33, 126) : '0' + below(4));
        }
        fault(1);
        walk();
        count(9);
        count(6);
    }

    private void call(int kind) {
        if (kind < 17) {
            change(kind);
        } else {
            look(kind);
        }
    }

    private void change(int kind) {
        switch (kind) {
            case 0: case 1: case 2: {
                put(about(0, 63), about(0, 3));
                break;
            }
            case 3: case 4: {
                int cell = about(0, 63), strength = about(1, 9), fuel = below(3) == 0 ? about(1, 99) : 1 + below(9);
                is("lamp(" + cell + ", " + strength + ", " + fuel + ")",
                        light.lamp(cell, strength, fuel), oracle.lamp(cell, strength, fuel));
                break;
            }
            case 5: {
                int lamp = about(0, 5);
                if (below(3) == 0) {
                    is("takeLamp(" + lamp + ")", light.takeLamp(lamp), oracle.takeLamp(lamp));
                }
                break;
            }
            case 6: {
                int lamp = about(0, 5), fuel = about(0, below(3) == 0 ? 99 : 9);
                is("fill(" + lamp + ", " + fuel + ")", light.fill(lamp, fuel), oracle.fill(lamp, fuel));
                break;
            }
            case 7: {
                int what = about(0, 1), value = what == 0 ? about(1, below(2) == 0 ? 20 : 5) : about(0, 4);
                is("set(" + what + ", " + value + ")", light.set(what, value), oracle.set(what, value));
                break;
            }
            case 8: case 9: case 10: {
                int direction = about(0, 3);
                is("step(" + direction + ")", light.step(direction), oracle.step(direction));
                break;
            }
            case 11: {
                is("forget()", light.forget(), oracle.forget());
                break;
            }
            case 12: {
                takeWalk();
                break;
            }
            case 13: {
                if (below(6) == 0) {
                    loadMap(below(30));
                }
                break;
            }
            case 14: {
                is("undo()", light.undo(), oracle.undo());
                break;
            }
            case 15: {
                is("save()", light.save(), oracle.save());
                break;
            }
            default: {
                is("restore()", light.restore(), oracle.restore());
                break;
            }
        }
    }

    private void look(int kind) {
        int cell = about(0, 63);
        int other = about(0, 63);
        int way = about(0, 1);
        switch (kind) {
            case 17: case 18: case 19: case 20: {
                int what = about(0, 7);
                is("cell(" + cell + ", " + what + ")", light.cell(cell, what), oracle.cell(cell, what));
                break;
            }
            case 21: case 22: case 23: case 24: {
                is("sees(" + cell + ", " + other + ", " + way + ")",
                        light.sees(cell, other, way), oracle.sees(cell, other, way));
                break;
            }
            case 25: case 26: {
                is("stops(" + cell + ", " + other + ")", light.stops(cell, other), oracle.stops(cell, other));
                break;
            }
            case 27: case 28: {
                int lamp = about(0, 5), what = about(0, 4);
                is("lampOf(" + lamp + ", " + what + ")", light.lampOf(lamp, what), oracle.lampOf(lamp, what));
                break;
            }
            case 29: case 30: case 31: {
                count(about(0, 17));
                break;
            }
            case 32: {
                due.isDouble(run + "litShare()", light.litShare(), oracle.litShare());
                calls++;
                break;
            }
            case 33: case 34: {
                is("exposure(" + cell + ", " + way + ")", light.exposure(cell, way), oracle.exposure(cell, way));
                break;
            }
            case 35: {
                int index = about(0, 20);
                is("way(" + cell + ", " + index + ")", light.way(cell, index), oracle.way(cell, index));
                break;
            }
            case 36: case 37: {
                int to = about(0, 3), what = about(0, 2);
                is("ifPut(" + cell + ", " + to + ", " + what + ")",
                        light.ifPut(cell, to, what), oracle.ifPut(cell, to, what));
                break;
            }
            case 38: {
                int strength = about(1, 9);
                is("bestLamp(" + strength + ")", light.bestLamp(strength), oracle.bestLamp(strength));
                break;
            }
            default: {
                is("darkIn()", light.darkIn(), oracle.darkIn());
                append(about(33, 126));
                fault(way);
                break;
            }
        }
    }
}

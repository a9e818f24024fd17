/** Promises 9, 10 and 11: append, clear, fault. */
public final class PadTest {
    public static void main(String[] args) {
        Due due = new Due("PadTest");
        appending(due);
        faultsOfMaps(due);
        faultsAtTheWalker(due);
        faultsOfWalks(due);
        due.close();
    }

    private static void appending(Due due) {
        PillarLight x = new PillarLight();
        due.is("clear()", x.clear(), 0);
        due.is("append(32)", x.append(32), -1);
        due.is("append(127)", x.append(127), -1);
        due.is("append(-1)", x.append(-1), -1);
        due.is("append(65536 + 40)", x.append(65536 + 40), -1);
        due.is("append(33)", x.append(33), 1);
        due.is("append(126)", x.append(126), 2);
        for (int length = 3; length <= 80; length++) {
            due.is("append", x.append(48), length);
        }
        due.is("append to 80", x.append(48), -3);
        due.is("append(32) to 80", x.append(32), -1);
        due.is("count(16)", x.count(16), 80);
        due.is("states", x.count(17), 0);
        due.is("clear()", x.clear(), 80);
        due.is("clear()", x.clear(), 0);
        due.is("append(50)", x.append(50), 1);
    }

    private static void fault(Due due, PillarLight x, int way, String text, int want) {
        MapTest.type(x, text);
        due.is("fault(" + way + ") of " + text, x.fault(way), want);
        due.is("length behind it", x.count(16), text.length());
    }

    private static void faultsOfMaps(Due due) {
        PillarLight x = new PillarLight();
        String floors = MapTest.FLOORS;
        due.is("fault(-1)", x.fault(-1), -1);
        due.is("fault(2)", x.fault(2), -1);
        due.is("fault(MIN)", x.fault(Integer.MIN_VALUE), -1);
        fault(due, x, 0, "", 0);
        fault(due, x, 0, floors, -4);
        fault(due, x, 0, floors + ".", 71);
        fault(due, x, 0, floors + "/.......", 71);
        fault(due, x, 0, floors.substring(0, 70), 70);
        fault(due, x, 0, floors.substring(0, 30), 30);
        shortFaultsOfMaps(due, new PillarLight());
        fault(due, x, 0, floors.substring(0, 70) + "!", 70);
        fault(due, x, 0, floors.substring(0, 70) + "#", -4);
    }

    private static void shortFaultsOfMaps(Due due, PillarLight x) {
        fault(due, x, 0, ".#=~/", 4);
        fault(due, x, 0, ".#=~.#=~.", 8);
        fault(due, x, 0, ".#=~.#=~/", 9);
        fault(due, x, 0, "........//", 9);
        fault(due, x, 0, "0", 0);
        fault(due, x, 0, "..-", 2);
    }

    private static void faultsAtTheWalker(Due due) {
        PillarLight x = new PillarLight();
        fault(due, x, 0, "#", 0);
        fault(due, x, 0, "=", 0);
        fault(due, x, 0, "~", 1);
        fault(due, x, 0, ".", 1);
        x.step(1);
        x.step(2);
        fault(due, x, 0, "########/##", 10);
        fault(due, x, 0, "########/#=", 10);
        fault(due, x, 0, "########/#~", 11);
        fault(due, x, 0, "========/=.", 11);
    }

    private static void faultsOfWalks(Due due) {
        PillarLight x = new PillarLight();
        fault(due, x, 1, "", 0);
        fault(due, x, 1, "0123", -4);
        fault(due, x, 1, "3", -4);
        fault(due, x, 1, "4", 0);
        fault(due, x, 1, "/", 0);
        fault(due, x, 1, "012.4", 3);
        StringBuilder digits = new StringBuilder();
        for (int at = 0; at < 80; at++) {
            digits.append((char) ('0' + at % 4));
        }
        fault(due, x, 1, digits.toString(), -4);
        fault(due, x, 1, digits.substring(0, 79) + "4", 79);
    }
}

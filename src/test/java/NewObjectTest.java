/** Promise 1, and the constants. */
public final class NewObjectTest {
    public static void main(String[] args) {
        Due due = new Due("NewObjectTest");
        constants(due);
        firstAnswers(due);
        ownState(due);
        due.close();
    }

    private static void constants(Due due) {
        due.is("INVALID_ARGUMENT", PillarLight.INVALID_ARGUMENT, -1);
        due.is("NOT_POSSIBLE", PillarLight.NOT_POSSIBLE, -2);
        due.is("LIMIT_REACHED", PillarLight.LIMIT_REACHED, -3);
        due.is("NOT_FOUND", PillarLight.NOT_FOUND, -4);
        due.is("DIM", PillarLight.DIM, 0);
        due.is("TORCH", PillarLight.TORCH, 1);
    }

    private static void firstAnswers(Due due) {
        PillarLight light = new PillarLight();
        int[] counts = {64, 0, 0, 0, 0, 4, 4, 64, 0, 0, 0, 0, 0, 0, 3, 1, 0, 0};
        for (int what = 0; what < counts.length; what++) {
            due.is("count(" + what + ")", light.count(what), counts[what]);
        }
        for (int cell = 0; cell < 64; cell++) {
            int near = cell == 0 || cell == 1 || cell == 8 || cell == 9 ? 1 : 0;
            due.is("cell(" + cell + ", 0)", light.cell(cell, 0), 0);
            due.is("cell(" + cell + ", 4)", light.cell(cell, 4), near);
            due.is("cell(" + cell + ", 6)", light.cell(cell, 6), -4);
        }
        due.isDouble("litShare()", light.litShare(), 0.0);
        due.is("undo()", light.undo(), -2);
        due.is("restore()", light.restore(), -2);
        due.is("darkIn()", light.darkIn(), 0);
        due.is("clear()", light.clear(), 0);
    }

    private static void ownState(Due due) {
        PillarLight one = new PillarLight();
        PillarLight other = new PillarLight();
        one.put(5, 1);
        one.lamp(6, 9, 9);
        due.is("cell(5, 0) of another object", other.cell(5, 0), 0);
        due.is("count(8) of another object", other.count(8), 0);
    }
}

/**
 * Every line of the map past every single pillar, and past every two pillars at one corner, compared with the
 * oracle: whatever stops a line is one of these.
 */
public final class AllLinesTest {
    private static final int WALL = 1, CURTAIN = 3;

    private final Due due = new Due("AllLinesTest");

    public static void main(String[] args) {
        AllLinesTest test = new AllLinesTest();
        for (int cell = 0; cell < 64; cell++) {
            test.linesPast(cell, cell);
        }
        for (int corner = 0; corner < 49; corner++) {
            int upperLeft = corner / 7 * 8 + corner % 7;
            test.linesPast(upperLeft, upperLeft + 9);
            test.linesPast(upperLeft + 1, upperLeft + 8);
        }
        test.due.close();
    }

    private void linesPast(int one, int other) {
        Oracle oracle = new Oracle();
        // The walker stands where no pillar shall be.
        oracle.step(1);
        oracle.put(one, one == 1 ? CURTAIN : WALL);
        oracle.put(other, CURTAIN);
        for (int from = 0; from < 64; from++) {
            PillarLight x = new PillarLight();
            x.step(1);
            x.put(one, one == 1 ? CURTAIN : WALL);
            x.put(other, CURTAIN);
            for (int to = 0; to < 64; to++) {
                int want = oracle.sees(from, to, 0);
                String line = "from " + from + " to " + to + " past " + one + " and " + other;
                due.is("the line " + line, x.sees(from, to, 0), want);
                due.is("the line, cell by cell, " + line, x.sees(from, to, 1), want);
                due.is("the stop " + line, x.stops(from, to), oracle.stops(from, to));
            }
        }
    }
}

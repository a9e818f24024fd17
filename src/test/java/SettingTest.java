/** Promise 6: set. */
public final class SettingTest {
    public static void main(String[] args) {
        Due due = new Due("SettingTest");
        ranges(due);
        dim(due);
        torch(due);
        due.close();
    }

    private static void ranges(Due due) {
        PillarLight x = new PillarLight();
        due.is("set(0, 1)", x.set(0, 1), 3);
        due.is("set(0, 20)", x.set(0, 20), 1);
        due.is("set(0, 0)", x.set(0, 0), -1);
        due.is("set(0, 21)", x.set(0, 21), -1);
        due.is("set(1, 4)", x.set(1, 4), 1);
        due.is("set(1, 0)", x.set(1, 0), 4);
        due.is("set(1, 0) again", x.set(1, 0), 0);
        due.is("set(1, -1)", x.set(1, -1), -1);
        due.is("set(1, 5)", x.set(1, 5), -1);
        due.is("set(2, 1)", x.set(2, 1), -1);
        due.is("set(-1, 1)", x.set(-1, 1), -1);
        due.is("set(MIN, 1)", x.set(Integer.MIN_VALUE, 1), -1);
        due.is("set(0, MAX)", x.set(0, Integer.MAX_VALUE), -1);
        due.is("count(14)", x.count(14), 20);
        due.is("count(15)", x.count(15), 0);
        due.is("states", x.count(17), 4);
        x.undo();
        x.undo();
        due.is("count(15) behind undo", x.count(15), 4);
    }

    private static void dim(Due due) {
        PillarLight x = new PillarLight();
        x.lamp(27, 1, 9);
        int[] lit = {21, 9, 1, 1, 0};
        for (int dim = 1; dim <= 5; dim++) {
            x.set(PillarLight.DIM, dim);
            due.is("lit at DIM " + dim, x.count(4), lit[dim - 1]);
        }
    }

    private static void torch(Due due) {
        PillarLight x = new PillarLight();
        int[] seen = {1, 4, 9, 16, 25};
        for (int torch = 0; torch <= 4; torch++) {
            x.set(PillarLight.TORCH, torch);
            due.is("seen at TORCH " + torch, x.count(5), seen[torch]);
            due.is("remembered at TORCH " + torch, x.count(6), Math.max(4, seen[torch]));
        }
        x.set(PillarLight.TORCH, 0);
        due.is("remembered still", x.count(6), 25);
    }
}

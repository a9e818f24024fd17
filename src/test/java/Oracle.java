import java.util.ArrayList;
import java.util.Arrays;
import java.util.List;

/**
 * The document told a second time, slowly and by other means than the class: lines are cut with every
 * cell and every corner by exact numbers, ways are told from all cells to all cells, states are copied.
 */
final class Oracle {
    private static final int BAD = -1, IMPOSSIBLE = -2, FULL = -3, NONE = -4;
    /** All cuts of lines with the sides of cells are whole in this many parts of the line. */
    private static final int PARTS = 840;
    private static final int FAR = 1 << 28;

    private static final class State {
        int[] kind = new int[64];
        boolean[] remembered = new boolean[64];
        /** Each lamp: cell, strength, fuel. */
        List<int[]> lamps = new ArrayList<>();
        int walker;
        int steps;
        int[] setting = {3, 1};

        State copy() {
            State to = new State();
            to.kind = kind.clone();
            to.remembered = remembered.clone();
            for (int[] lamp : lamps) {
                to.lamps.add(lamp.clone());
            }
            to.walker = walker;
            to.steps = steps;
            to.setting = setting.clone();
            return to;
        }

        boolean stopsLight(int cell) {
            return kind[cell] == 1 || kind[cell] == 3;
        }

        boolean stopsFeet(int cell) {
            return kind[cell] == 1 || kind[cell] == 2;
        }

        void dropHiddenLamps() {
            lamps.removeIf(lamp -> stopsLight(lamp[0]));
        }

        boolean sees(int from, int to) {
            return from == to || firstCut(from, to) == NONE && !cornerStops(from, to);
        }

        int firstCut(int from, int to) {
            int best = NONE;
            int bestAt = PARTS + 1;
            for (int cell = 0; cell < 64; cell++) {
                if (cell == from || cell == to || !stopsLight(cell)) {
                    continue;
                }
                int[] rows = span(from / 8, to / 8, cell / 8);
                int[] columns = span(from % 8, to % 8, cell % 8);
                int in = Math.max(rows[0], columns[0]);
                int out = Math.min(rows[1], columns[1]);
                if (in < out && in < bestAt) {
                    best = cell;
                    bestAt = in;
                }
            }
            return best;
        }

        /** The part of a line, within its ends, that is between two sides of a row or a column. */
        private static int[] span(int from, int to, int at) {
            if (from == to) {
                return at == from ? new int[] {0, PARTS} : new int[] {1, 0};
            }
            int one = (2 * (at - from) - 1) * (PARTS / 2) / (to - from);
            int two = (2 * (at - from) + 1) * (PARTS / 2) / (to - from);
            return new int[] {Math.max(0, Math.min(one, two)), Math.min(PARTS, Math.max(one, two))};
        }

        boolean cornerStops(int from, int to) {
            int down = to / 8 - from / 8;
            int along = to % 8 - from % 8;
            if (down == 0 || along == 0) {
                return false;
            }
            for (int row = 1; row < 8; row++) {
                for (int column = 1; column < 8; column++) {
                    int atRow = (2 * (row - from / 8) - 1) * (PARTS / 2) / down;
                    int atColumn = (2 * (column - from % 8) - 1) * (PARTS / 2) / along;
                    if (atRow != atColumn || atRow <= 0 || atRow >= PARTS) {
                        continue;
                    }
                    int upperLeft = 8 * (row - 1) + column - 1;
                    boolean falls = down > 0 == along > 0;
                    int one = falls ? upperLeft + 1 : upperLeft;
                    int other = falls ? upperLeft + 8 : upperLeft + 9;
                    if (stopsLight(one) && stopsLight(other)) {
                        return true;
                    }
                }
            }
            return false;
        }

        int gift(int[] lamp, int cell) {
            int rows = lamp[0] / 8 - cell / 8;
            int columns = lamp[0] % 8 - cell % 8;
            boolean given = lamp[2] > 0 && sees(lamp[0], cell);
            return given ? 8 * lamp[1] / (2 + rows * rows + columns * columns) : 0;
        }

        int[] light() {
            int[] light = new int[64];
            for (int[] lamp : lamps) {
                for (int cell = 0; cell < 64; cell++) {
                    light[cell] += gift(lamp, cell);
                }
            }
            return light;
        }

        int lit() {
            int lit = 0;
            for (int light : light()) {
                lit += light >= setting[0] ? 1 : 0;
            }
            return lit;
        }

        boolean[] seen() {
            int[] light = light();
            boolean[] seen = new boolean[64];
            for (int cell = 0; cell < 64; cell++) {
                int rows = Math.abs(cell / 8 - walker / 8);
                int columns = Math.abs(cell % 8 - walker % 8);
                boolean near = Math.max(rows, columns) <= setting[1];
                seen[cell] = sees(walker, cell) && (near || light[cell] >= setting[0]);
            }
            return seen;
        }

        void remember() {
            boolean[] seen = seen();
            for (int cell = 0; cell < 64; cell++) {
                remembered[cell] |= seen[cell];
            }
        }

        int next(int cell, int direction) {
            int row = cell / 8 + new int[] {-1, 0, 1, 0}[direction];
            int column = cell % 8 + new int[] {0, 1, 0, -1}[direction];
            boolean inside = row >= 0 && row < 8 && column >= 0 && column < 8;
            return inside && !stopsFeet(8 * row + column) ? 8 * row + column : NONE;
        }

        boolean move(int direction) {
            int next = next(walker, direction);
            if (next == NONE) {
                return false;
            }
            walker = next;
            steps++;
            burn();
            remember();
            return true;
        }

        void burn() {
            for (int[] lamp : lamps) {
                lamp[2] = Math.max(0, lamp[2] - 1);
            }
        }

        /** The least exposures from every cell to every cell. */
        int[][] exposures() {
            int[] light = light();
            int[][] least = new int[64][64];
            for (int from = 0; from < 64; from++) {
                Arrays.fill(least[from], FAR);
                least[from][from] = 0;
                for (int direction = 0; direction < 4; direction++) {
                    int next = next(from, direction);
                    if (next != NONE) {
                        least[from][next] = 1 + light[next];
                    }
                }
            }
            for (int over = 0; over < 64; over++) {
                for (int from = 0; from < 64; from++) {
                    for (int to = 0; to < 64; to++) {
                        least[from][to] = Math.min(least[from][to], least[from][over] + least[over][to]);
                    }
                }
            }
            return least;
        }

        int lampIn(int cell) {
            for (int lamp = 0; lamp < lamps.size(); lamp++) {
                if (lamps.get(lamp)[0] == cell) {
                    return lamp;
                }
            }
            return NONE;
        }
    }

    private State now = new State();
    private State snapshot;
    private final List<State> history = new ArrayList<>();
    private String pad = "";

    Oracle() {
        now.remember();
    }

    private static boolean in(int value, int low, int high) {
        return low <= value && value <= high;
    }

    private void record() {
        history.add(now.copy());
        if (history.size() > 4) {
            history.remove(0);
        }
    }

    int put(int cell, int kind) {
        if (!in(cell, 0, 63) || !in(kind, 0, 3)) {
            return BAD;
        }
        if (cell == now.walker && (kind == 1 || kind == 2)) {
            return IMPOSSIBLE;
        }
        record();
        int before = now.kind[cell];
        now.kind[cell] = kind;
        now.dropHiddenLamps();
        now.remember();
        return before;
    }

    int lamp(int cell, int strength, int fuel) {
        if (!in(cell, 0, 63) || !in(strength, 1, 9) || !in(fuel, 1, 99)) {
            return BAD;
        }
        if (now.stopsLight(cell) || now.lampIn(cell) != NONE) {
            return IMPOSSIBLE;
        }
        if (now.lamps.size() == 6) {
            return FULL;
        }
        record();
        now.lamps.add(new int[] {cell, strength, fuel});
        now.remember();
        return now.lamps.size() - 1;
    }

    int takeLamp(int lamp) {
        if (!in(lamp, 0, now.lamps.size() - 1)) {
            return BAD;
        }
        record();
        int cell = now.lamps.remove(lamp)[0];
        now.remember();
        return cell;
    }

    int fill(int lamp, int fuel) {
        if (!in(lamp, 0, now.lamps.size() - 1) || !in(fuel, 0, 99)) {
            return BAD;
        }
        record();
        int before = now.lamps.get(lamp)[2];
        now.lamps.get(lamp)[2] = fuel;
        now.remember();
        return before;
    }

    int set(int what, int value) {
        if (!(what == 0 && in(value, 1, 20)) && !(what == 1 && in(value, 0, 4))) {
            return BAD;
        }
        record();
        int before = now.setting[what];
        now.setting[what] = value;
        now.remember();
        return before;
    }

    int step(int direction) {
        if (!in(direction, 0, 3)) {
            return BAD;
        }
        if (now.next(now.walker, direction) == NONE) {
            return IMPOSSIBLE;
        }
        record();
        now.move(direction);
        return now.walker;
    }

    int forget() {
        record();
        int before = count(6);
        now.remembered = new boolean[64];
        now.remember();
        return before;
    }

    int append(int code) {
        if (!in(code, 33, 126)) {
            return BAD;
        }
        if (pad.length() == 80) {
            return FULL;
        }
        pad += (char) code;
        return pad.length();
    }

    int clear() {
        int before = pad.length();
        pad = "";
        return before;
    }

    int fault(int way) {
        if (!in(way, 0, 1)) {
            return BAD;
        }
        // The longest beginning that some right text begins with, by trying to complete it.
        int length = 0;
        while (length < pad.length() && canBecomeRight(pad.substring(0, length + 1), way)) {
            length++;
        }
        return length == pad.length() && isRight(pad, way) ? NONE : length;
    }

    private boolean canBecomeRight(String text, int way) {
        if (way == 1) {
            return isRight(text + "0", way);
        }
        String floors = "......../......../......../......../......../......../......../........";
        return text.length() <= 71 && isRight(text + floors.substring(text.length()), way);
    }

    private boolean isRight(String text, int way) {
        if (way == 1) {
            return text.matches("[0-3]+");
        }
        if (!text.matches("([.#=~]{8}/){7}[.#=~]{8}")) {
            return false;
        }
        char under = text.replace("/", "").charAt(now.walker);
        return under == '.' || under == '~';
    }

    int load() {
        if (fault(0) != NONE) {
            return IMPOSSIBLE;
        }
        record();
        String signs = pad.replace("/", "");
        int changed = 0;
        for (int cell = 0; cell < 64; cell++) {
            int kind = ".#=~".indexOf(signs.charAt(cell));
            changed += kind == now.kind[cell] ? 0 : 1;
            now.kind[cell] = kind;
        }
        pad = "";
        now.dropHiddenLamps();
        now.remember();
        return changed;
    }

    int walk() {
        if (fault(1) != NONE) {
            return IMPOSSIBLE;
        }
        record();
        int made = 0;
        while (made < pad.length() && now.move(pad.charAt(made) - '0')) {
            made++;
        }
        pad = "";
        return made;
    }

    int cell(int cell, int what) {
        if (!in(cell, 0, 63) || !in(what, 0, 7)) {
            return BAD;
        }
        int bits = 0;
        int free = 0;
        for (int lamp = 0; lamp < now.lamps.size(); lamp++) {
            bits |= now.gift(now.lamps.get(lamp), cell) > 0 ? 1 << lamp : 0;
        }
        for (int to = 0; to < 64; to++) {
            free += now.sees(cell, to) ? 1 : 0;
        }
        int light = now.light()[cell];
        int lit = light >= now.setting[0] ? 1 : 0;
        int seen = now.seen()[cell] ? 1 : 0;
        int remembered = now.remembered[cell] ? 1 : 0;
        return new int[] {now.kind[cell], light, lit, seen, remembered, bits, now.lampIn(cell), free}[what];
    }

    int sees(int from, int to, int way) {
        if (!in(from, 0, 63) || !in(to, 0, 63) || !in(way, 0, 1)) {
            return BAD;
        }
        return now.sees(from, to) ? 1 : 0;
    }

    int stops(int from, int to) {
        return in(from, 0, 63) && in(to, 0, 63) ? now.firstCut(from, to) : BAD;
    }

    int lampOf(int lamp, int what) {
        if (!in(lamp, 0, now.lamps.size() - 1) || !in(what, 0, 4)) {
            return BAD;
        }
        int[] told = now.lamps.get(lamp);
        int reach = 0;
        for (int cell = 0; cell < 64; cell++) {
            reach += now.gift(told, cell) > 0 ? 1 : 0;
        }
        State without = now.copy();
        without.lamps.remove(lamp);
        return new int[] {told[0], told[1], reach, now.lit() - without.lit(), told[2]}[what];
    }

    private static int trues(boolean[] all) {
        int trues = 0;
        for (boolean one : all) {
            trues += one ? 1 : 0;
        }
        return trues;
    }

    private static int reached(State state) {
        int reached = 0;
        for (int exposure : state.exposures()[state.walker]) {
            reached += exposure < FAR ? 1 : 0;
        }
        return reached;
    }

    int count(int what) {
        if (in(what, 0, 3)) {
            return (int) Arrays.stream(now.kind).filter(kind -> kind == what).count();
        }
        int[] light = now.light();
        int most = Arrays.stream(light).max().getAsInt();
        switch (what) {
            case 4: return now.lit();
            case 5: return trues(now.seen());
            case 6: return trues(now.remembered);
            case 7: return reached(now);
            case 8: return now.lamps.size();
            case 9: return now.walker;
            case 10: return now.steps;
            case 11: return Arrays.stream(light).sum();
            case 12: return most;
            case 13: return Arrays.stream(light).boxed().toList().indexOf(most);
            case 14: return now.setting[0];
            case 15: return now.setting[1];
            case 16: return pad.length();
            case 17: return history.size();
            default: return BAD;
        }
    }

    double litShare() {
        return now.lit() / 64.0;
    }

    int exposure(int cell, int way) {
        if (!in(cell, 0, 63) || !in(way, 0, 1)) {
            return BAD;
        }
        int least = now.exposures()[now.walker][cell];
        return least < FAR ? least : NONE;
    }

    int way(int cell, int index) {
        if (!in(cell, 0, 63) || index < 0) {
            return BAD;
        }
        int[][] least = now.exposures();
        if (least[now.walker][cell] >= FAR) {
            return NONE;
        }
        int[] light = now.light();
        List<Integer> cells = new ArrayList<>(List.of(now.walker));
        int at = now.walker;
        while (at != cell) {
            for (int direction = 0; direction < 4; direction++) {
                int next = now.next(at, direction);
                if (next != NONE && 1 + light[next] + least[next][cell] == least[at][cell]) {
                    at = next;
                    break;
                }
            }
            cells.add(at);
        }
        return index < cells.size() ? cells.get(index) : NONE;
    }

    int ifPut(int cell, int kind, int what) {
        if (!in(cell, 0, 63) || !in(kind, 0, 3) || !in(what, 0, 2)) {
            return BAD;
        }
        if (cell == now.walker && (kind == 1 || kind == 2)) {
            return IMPOSSIBLE;
        }
        State then = now.copy();
        then.kind[cell] = kind;
        then.dropHiddenLamps();
        return what == 0 ? then.lit() : what == 1 ? trues(then.seen()) : reached(then);
    }

    int bestLamp(int strength) {
        if (!in(strength, 1, 9)) {
            return BAD;
        }
        int best = NONE;
        int most = -1;
        for (int cell = 0; cell < 64; cell++) {
            if (now.stopsLight(cell) || now.lampIn(cell) != NONE) {
                continue;
            }
            State then = now.copy();
            then.lamps.add(new int[] {cell, strength, 1});
            if (then.lit() > most) {
                most = then.lit();
                best = cell;
            }
        }
        return best;
    }

    int darkIn() {
        State then = now.copy();
        int steps = 0;
        while (then.lit() > 0) {
            then.burn();
            steps++;
        }
        return steps;
    }

    int undo() {
        if (history.isEmpty()) {
            return IMPOSSIBLE;
        }
        now = history.remove(history.size() - 1);
        return history.size();
    }

    int save() {
        snapshot = now.copy();
        return now.walker;
    }

    int restore() {
        if (snapshot == null) {
            return IMPOSSIBLE;
        }
        record();
        now = snapshot.copy();
        now.remember();
        return now.walker;
    }
}

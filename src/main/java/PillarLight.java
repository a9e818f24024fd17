/** Light that falls round pillars, on a map of 8 rows and 8 columns, and a walker who looks at it. */
public final class PillarLight {
    public static final int INVALID_ARGUMENT = -1;
    public static final int NOT_POSSIBLE = -2;
    public static final int LIMIT_REACHED = -3;
    public static final int NOT_FOUND = -4;
    public static final int DIM = 0, TORCH = 1;

    private static final int FLOOR = 0, WALL = 1, GLASS = 2, CURTAIN = 3;
    private static final int SIDE = 8;
    private static final int CELLS = 64;
    private static final int DIRECTIONS = 4;
    private static final int LAMP_LIMIT = 6;
    private static final int STATE_LIMIT = 4;
    private static final int NONE = -1;

    private final Scene now;
    /** The map that ifPut() tries, so that the map of now stays as it is. */
    private final Scene trial;
    private final Scene snapshot;
    private boolean saved;
    private final History history;
    private final Pad pad;
    private final Light light;
    private final Ways ways;

    public PillarLight() {
        Scene firstScene = new Scene();
        Light firstLight = new Light();
        firstScene.remembered = firstLight.seenCells(firstScene);
        now = firstScene;
        light = firstLight;
        trial = new Scene();
        snapshot = new Scene();
        history = new History();
        pad = new Pad();
        ways = new Ways();
    }

    // ---- the map, lamps

    public int put(int cell, int kind) {
        if (!Grid.isCell(cell) || !Grid.isKind(kind)) {
            return INVALID_ARGUMENT;
        }
        if (now.wouldTrapWalker(cell, kind)) {
            return NOT_POSSIBLE;
        }
        int before = now.kinds[cell];
        history.record(now);
        now.changeKind(cell, kind);
        rememberSeen();
        return before;
    }

    public int lamp(int cell, int strength, int fuel) {
        if (!Grid.isCell(cell) || !isWithin(strength, 1, 9) || !isWithin(fuel, 1, 99)) {
            return INVALID_ARGUMENT;
        }
        if (!now.hasRoomForLamp(cell)) {
            return NOT_POSSIBLE;
        }
        if (now.lamps >= LAMP_LIMIT) {
            return LIMIT_REACHED;
        }
        history.record(now);
        now.addLamp(cell, strength, fuel);
        rememberSeen();
        return now.lamps - 1;
    }

    public int takeLamp(int lamp) {
        if (!now.isLamp(lamp)) {
            return INVALID_ARGUMENT;
        }
        int cell = now.lampCell[lamp];
        history.record(now);
        now.removeLamp(lamp);
        rememberSeen();
        return cell;
    }

    public int fill(int lamp, int fuel) {
        if (!now.isLamp(lamp) || !isWithin(fuel, 0, 99)) {
            return INVALID_ARGUMENT;
        }
        int before = now.lampFuel[lamp];
        history.record(now);
        now.lampFuel[lamp] = fuel;
        rememberSeen();
        return before;
    }

    public int set(int what, int value) {
        if (what == DIM && isWithin(value, 1, 20)) {
            int before = now.dim;
            history.record(now);
            now.dim = value;
            rememberSeen();
            return before;
        }
        if (what == TORCH && isWithin(value, 0, 4)) {
            int before = now.torch;
            history.record(now);
            now.torch = value;
            rememberSeen();
            return before;
        }
        return INVALID_ARGUMENT;
    }

    // ---- the walker

    public int step(int direction) {
        if (!isWithin(direction, 0, DIRECTIONS - 1)) {
            return INVALID_ARGUMENT;
        }
        int next = now.nextOnFoot(now.walker, direction);
        if (next == NONE) {
            return NOT_POSSIBLE;
        }
        history.record(now);
        now.moveWalker(next);
        rememberSeen();
        return next;
    }

    public int forget() {
        int before = Long.bitCount(now.remembered);
        history.record(now);
        now.remembered = 0L;
        rememberSeen();
        return before;
    }

    // ---- texts

    public int append(int code) {
        if (!isWithin(code, 33, 126)) {
            return INVALID_ARGUMENT;
        }
        if (pad.length >= Pad.LIMIT) {
            return LIMIT_REACHED;
        }
        pad.add((char) code);
        return pad.length;
    }

    public int clear() {
        int before = pad.length;
        pad.length = 0;
        return before;
    }

    public int fault(int way) {
        if (way == 0) {
            return pad.faultAsMap(now.walker);
        }
        return way == 1 ? pad.faultAsWalk() : INVALID_ARGUMENT;
    }

    public int load() {
        if (pad.faultAsMap(now.walker) != NOT_FOUND) {
            return NOT_POSSIBLE;
        }
        history.record(now);
        int changed = 0;
        for (int cell = 0; cell < CELLS; cell++) {
            int kind = pad.kindAt(cell);
            if (kind != now.kinds[cell]) {
                changed++;
            }
            now.changeKind(cell, kind);
        }
        pad.length = 0;
        rememberSeen();
        return changed;
    }

    public int walk() {
        if (pad.faultAsWalk() != NOT_FOUND) {
            return NOT_POSSIBLE;
        }
        history.record(now);
        int made = 0;
        for (int at = 0; at < pad.length; at++) {
            int next = now.nextOnFoot(now.walker, pad.directionAt(at));
            if (next == NONE) {
                break;
            }
            now.moveWalker(next);
            rememberSeen();
            made++;
        }
        pad.length = 0;
        return made;
    }

    // ---- looks; nothing is changed

    public int cell(int cell, int what) {
        if (!Grid.isCell(cell)) {
            return INVALID_ARGUMENT;
        }
        switch (what) {
            case 0:
                return now.kinds[cell];
            case 1:
                return light.at(now, cell);
            case 2:
                return light.at(now, cell) >= now.dim ? 1 : 0;
            case 3:
                return bitOf(light.seenCells(now), cell);
            case 4:
                return bitOf(now.remembered, cell);
            case 5:
                return light.givers(now, cell);
            case 6:
                return now.lampIn(cell);
            case 7:
                return light.line.freeCells(now.kinds, cell);
            default:
                return INVALID_ARGUMENT;
        }
    }

    public int sees(int from, int to, int way) {
        if (!Grid.isCell(from) || !Grid.isCell(to) || !isWithin(way, 0, 1)) {
            return INVALID_ARGUMENT;
        }
        boolean free = way == 0
                ? light.line.isFreeAlong(now.kinds, from, to)
                : light.line.isFreeOfEach(now.kinds, from, to);
        return free ? 1 : 0;
    }

    public int stops(int from, int to) {
        if (!Grid.isCell(from) || !Grid.isCell(to)) {
            return INVALID_ARGUMENT;
        }
        return light.line.firstStop(now.kinds, from, to);
    }

    public int lampOf(int lamp, int what) {
        if (!now.isLamp(lamp)) {
            return INVALID_ARGUMENT;
        }
        switch (what) {
            case 0:
                return now.lampCell[lamp];
            case 1:
                return now.lampStrength[lamp];
            case 2:
                return light.reachOfLamp(now, lamp);
            case 3:
                return light.needOfLamp(now, lamp);
            case 4:
                return now.lampFuel[lamp];
            default:
                return INVALID_ARGUMENT;
        }
    }

    public int count(int what) {
        if (Grid.isKind(what)) {
            return now.cellsOfKind(what);
        }
        return isWithin(what, 4, 10) ? countOfScene(what) : countOfRest(what);
    }

    private int countOfScene(int what) {
        switch (what) {
            case 4:
                return light.litCells(now, 0);
            case 5:
                return Long.bitCount(light.seenCells(now));
            case 6:
                return Long.bitCount(now.remembered);
            case 7:
                return ways.reachedCells(now);
            case 8:
                return now.lamps;
            case 9:
                return now.walker;
            default:
                return now.steps;
        }
    }

    private int countOfRest(int what) {
        switch (what) {
            case 11:
                return light.sum(now);
            case 12:
                return light.at(now, light.brightest(now));
            case 13:
                return light.brightest(now);
            case 14:
                return now.dim;
            case 15:
                return now.torch;
            case 16:
                return pad.length;
            case 17:
                return history.size;
            default:
                return INVALID_ARGUMENT;
        }
    }

    public double litShare() {
        return (double) light.litCells(now, 0) / 64.0;
    }

    // ---- ways; nothing is changed

    public int exposure(int cell, int way) {
        if (!Grid.isCell(cell) || !isWithin(way, 0, 1)) {
            return INVALID_ARGUMENT;
        }
        ways.weigh(now, light);
        if (way == 0) {
            ways.settleFrom(now.walker);
        } else {
            ways.lessenFrom(now.walker);
        }
        return ways.leastTo(cell);
    }

    public int way(int cell, int index) {
        if (!Grid.isCell(cell) || index < 0) {
            return INVALID_ARGUMENT;
        }
        if (index >= CELLS || Grid.stopsFeet(now.kinds[cell])) {
            return NOT_FOUND;
        }
        ways.weigh(now, light);
        ways.settleFrom(cell);
        return ways.cellOnWay(now.walker, cell, index);
    }

    // ---- what would be; nothing is changed

    public int ifPut(int cell, int kind, int what) {
        if (!Grid.isCell(cell) || !Grid.isKind(kind) || !isWithin(what, 0, 2)) {
            return INVALID_ARGUMENT;
        }
        if (now.wouldTrapWalker(cell, kind)) {
            return NOT_POSSIBLE;
        }
        trial.copyFrom(now);
        trial.changeKind(cell, kind);
        switch (what) {
            case 0:
                return light.litCells(trial, 0);
            case 1:
                return Long.bitCount(light.seenCells(trial));
            default:
                return ways.reachedCells(trial);
        }
    }

    public int bestLamp(int strength) {
        return isWithin(strength, 1, 9) ? light.bestCell(now, strength) : INVALID_ARGUMENT;
    }

    public int darkIn() {
        int steps = 0;
        // Only where a lamp goes out can the last lit cell become dark.
        for (int round = 0; round < LAMP_LIMIT && light.litCells(now, steps) > 0; round++) {
            steps = now.leastFuelAbove(steps);
        }
        return steps;
    }

    // ---- history, snapshot

    public int undo() {
        if (history.size == 0) {
            return NOT_POSSIBLE;
        }
        history.takeBack(now);
        return history.size;
    }

    public int save() {
        snapshot.copyFrom(now);
        saved = true;
        return now.walker;
    }

    public int restore() {
        if (!saved) {
            return NOT_POSSIBLE;
        }
        history.record(now);
        now.copyFrom(snapshot);
        rememberSeen();
        return now.walker;
    }

    private void rememberSeen() {
        now.remembered |= light.seenCells(now);
    }

    private static int bitOf(long bits, int cell) {
        return (int) (bits >>> cell & 1L);
    }

    private static boolean isWithin(int value, int low, int high) {
        return value >= low && value <= high;
    }

    /** What holds for the cells and kinds of every map. */
    private static final class Grid {
        static boolean isCell(int cell) {
            return cell >= 0 && cell < CELLS;
        }

        static boolean isKind(int kind) {
            return kind >= FLOOR && kind <= CURTAIN;
        }

        static boolean stopsLight(int kind) {
            return kind == WALL || kind == CURTAIN;
        }

        static boolean stopsFeet(int kind) {
            return kind == WALL || kind == GLASS;
        }

        static int row(int cell) {
            return cell / SIDE;
        }

        static int column(int cell) {
            return cell % SIDE;
        }

        static int rowsBetween(int from, int to) {
            return Math.abs(row(to) - row(from));
        }

        static int columnsBetween(int from, int to) {
            return Math.abs(column(to) - column(from));
        }

        /** Returns the next cell in a direction, NONE where the map ends. */
        static int neighbour(int cell, int direction) {
            switch (direction) {
                case 0:
                    return row(cell) > 0 ? cell - SIDE : NONE;
                case 1:
                    return column(cell) < SIDE - 1 ? cell + 1 : NONE;
                case 2:
                    return row(cell) < SIDE - 1 ? cell + SIDE : NONE;
                case 3:
                    return column(cell) > 0 ? cell - 1 : NONE;
                default:
                    return NONE;
            }
        }
    }

    /** All that the history and the snapshot keep: the map, the lamps, the walker and the settings. */
    private static final class Scene {
        final int[] kinds = new int[CELLS];
        final int[] lampCell = new int[LAMP_LIMIT];
        final int[] lampStrength = new int[LAMP_LIMIT];
        final int[] lampFuel = new int[LAMP_LIMIT];
        int lamps;
        int walker;
        int steps;
        int dim = 3;
        int torch = 1;
        /** The bit of a cell is set if it is remembered. */
        long remembered;

        void copyFrom(Scene other) {
            System.arraycopy(other.kinds, 0, kinds, 0, CELLS);
            System.arraycopy(other.lampCell, 0, lampCell, 0, LAMP_LIMIT);
            System.arraycopy(other.lampStrength, 0, lampStrength, 0, LAMP_LIMIT);
            System.arraycopy(other.lampFuel, 0, lampFuel, 0, LAMP_LIMIT);
            lamps = other.lamps;
            walker = other.walker;
            steps = other.steps;
            dim = other.dim;
            torch = other.torch;
            remembered = other.remembered;
        }

        boolean wouldTrapWalker(int cell, int kind) {
            return cell == walker && Grid.stopsFeet(kind);
        }

        void changeKind(int cell, int kind) {
            kinds[cell] = kind;
            if (Grid.stopsLight(kind)) {
                removeLamp(lampIn(cell));
            }
        }

        int cellsOfKind(int kind) {
            int found = 0;
            for (int cell = 0; cell < CELLS; cell++) {
                if (kinds[cell] == kind) {
                    found++;
                }
            }
            return found;
        }

        boolean isLamp(int lamp) {
            return lamp >= 0 && lamp < lamps;
        }

        /** Returns the lamp in a cell, NOT_FOUND without one. */
        int lampIn(int cell) {
            for (int lamp = 0; lamp < lamps; lamp++) {
                if (lampCell[lamp] == cell) {
                    return lamp;
                }
            }
            return NOT_FOUND;
        }

        boolean hasRoomForLamp(int cell) {
            return !Grid.stopsLight(kinds[cell]) && lampIn(cell) == NOT_FOUND;
        }

        void addLamp(int cell, int strength, int fuel) {
            if (lamps >= LAMP_LIMIT) {
                return;
            }
            lampCell[lamps] = cell;
            lampStrength[lamps] = strength;
            lampFuel[lamps] = fuel;
            lamps++;
        }

        void removeLamp(int lamp) {
            if (!isLamp(lamp)) {
                return;
            }
            for (int later = lamp + 1; later < lamps; later++) {
                lampCell[later - 1] = lampCell[later];
                lampStrength[later - 1] = lampStrength[later];
                lampFuel[later - 1] = lampFuel[later];
            }
            lamps--;
        }

        /** Returns the least fuel of a lamp above a number, this number if there is none. */
        int leastFuelAbove(int number) {
            int least = number;
            for (int lamp = 0; lamp < lamps; lamp++) {
                int fuel = lampFuel[lamp];
                if (fuel > number && (least == number || fuel < least)) {
                    least = fuel;
                }
            }
            return least;
        }

        /** Returns the cell into which a step goes, NONE if there is no such step. */
        int nextOnFoot(int cell, int direction) {
            int next = Grid.neighbour(cell, direction);
            return next == NONE || Grid.stopsFeet(kinds[next]) ? NONE : next;
        }

        void moveWalker(int cell) {
            walker = cell;
            steps++;
            for (int lamp = 0; lamp < lamps; lamp++) {
                if (lampFuel[lamp] > 0) {
                    lampFuel[lamp]--;
                }
            }
        }
    }

    /** The straight line between the middles of two cells, and what stops it. */
    private static final class Line {
        /** More cells than a line on the map goes through. */
        private static final int LONGEST = 2 * SIDE;

        private int cell;
        private int goal;
        /** How a cell's number changes with a step towards the goal's row, and towards its column. */
        private int rowStep;
        private int columnStep;
        private int rows;
        private int columns;
        /**
         * Which side the line meets next: below 0 the one to the next row, above 0 the one to the
         * next column, 0 both in their corner. With r rows and c columns gone through, the line
         * meets them after (2r + 1) / (2 * rows) and (2c + 1) / (2 * columns) of its length; this
         * is (2r + 1) * columns - (2c + 1) * rows, so that no level or upright line divides by 0.
         */
        private int lead;

        private void start(int from, int to) {
            // Divided and turned here, as the chain of calls that ends here is the deepest of all.
            int down = to / SIDE - from / SIDE;
            int along = to % SIDE - from % SIDE;
            cell = from;
            goal = to;
            rowStep = down < 0 ? -SIDE : SIDE;
            columnStep = along < 0 ? -1 : 1;
            rows = down < 0 ? -down : down;
            columns = along < 0 ? -along : along;
            lead = columns - rows;
        }

        private void advance() {
            int side = lead;
            if (side <= 0) {
                cell += rowStep;
                lead += 2 * columns;
            }
            if (side >= 0) {
                cell += columnStep;
                lead -= 2 * rows;
            }
        }

        private static boolean isStopped(int[] kinds, int cell) {
            return cell >= 0 && cell < CELLS && (kinds[cell] == WALL || kinds[cell] == CURTAIN);
        }

        /** Tells by going along the line from cell to cell whether it is free. */
        boolean isFreeAlong(int[] kinds, int from, int to) {
            start(from, to);
            for (int i = 0; i < LONGEST && cell != goal; i++) {
                if (lead == 0 && isStopped(kinds, cell + rowStep)
                        && isStopped(kinds, cell + columnStep)) {
                    return false;
                }
                advance();
                if (cell != goal && isStopped(kinds, cell)) {
                    return false;
                }
            }
            return true;
        }

        /** Returns the first cell between the ends that stops the line with its inside, or NOT_FOUND. */
        int firstStop(int[] kinds, int from, int to) {
            start(from, to);
            for (int i = 0; i < LONGEST && cell != goal; i++) {
                advance();
                if (cell != goal && isStopped(kinds, cell)) {
                    return cell;
                }
            }
            return NOT_FOUND;
        }

        /** Tells by looking at each cell that stops light by itself whether the line is free. */
        boolean isFreeOfEach(int[] kinds, int from, int to) {
            start(from, to);
            for (int third = 0; third < CELLS; third++) {
                if (third != from && third != to && isStopped(kinds, third)
                        && isStoppedAt(kinds, from, third)) {
                    return false;
                }
            }
            return true;
        }

        private boolean isStoppedAt(int[] kinds, int from, int third) {
            int down = (Grid.row(third) - Grid.row(from)) * (rowStep > 0 ? 1 : -1);
            int along = (Grid.column(third) - Grid.column(from)) * columnStep;
            if (!isWithin(down, 0, rows) || !isWithin(along, 0, columns)) {
                return false;
            }
            // Twice the distance of the cell's middle from the line, times the line's length: below
            // rows + columns the line cuts the cell, at just as much it touches one corner of it.
            int off = 2 * (down * columns - along * rows);
            if (Math.abs(off) != rows + columns) {
                return Math.abs(off) < rows + columns;
            }
            int across = off > 0 ? third - rowStep + columnStep : third + rowStep - columnStep;
            return isStopped(kinds, across);
        }

        int freeCells(int[] kinds, int from) {
            int found = 0;
            for (int to = 0; to < CELLS; to++) {
                if (isFreeAlong(kinds, from, to)) {
                    found++;
                }
            }
            return found;
        }
    }

    /** What the lamps of a scene give, some steps from now, and what the walker sees by it. */
    private static final class Light {
        final Line line = new Line();
        /** The light of each cell; each look works it out anew, as a trial may have been there. */
        private final int[] all = new int[CELLS];

        private static int strengthAt(int strength, int from, int to) {
            int down = Grid.row(to) - Grid.row(from);
            int along = Grid.column(to) - Grid.column(from);
            return 8 * strength / (2 + down * down + along * along);
        }

        private int gift(Scene scene, int lamp, int cell, int steps) {
            if (scene.lampFuel[lamp] <= steps) {
                return 0;
            }
            int from = scene.lampCell[lamp];
            int given = strengthAt(scene.lampStrength[lamp], from, cell);
            return given > 0 && line.isFreeAlong(scene.kinds, from, cell) ? given : 0;
        }

        int at(Scene scene, int cell) {
            int sum = 0;
            for (int lamp = 0; lamp < scene.lamps; lamp++) {
                sum += gift(scene, lamp, cell, 0);
            }
            return sum;
        }

        /** Works out the light of all cells behind a number of steps. */
        private void shine(Scene scene, int steps) {
            for (int cell = 0; cell < CELLS; cell++) {
                all[cell] = 0;
                for (int lamp = 0; lamp < scene.lamps; lamp++) {
                    all[cell] += gift(scene, lamp, cell, steps);
                }
            }
        }

        int litCells(Scene scene, int steps) {
            shine(scene, steps);
            int found = 0;
            for (int cell = 0; cell < CELLS; cell++) {
                if (all[cell] >= scene.dim) {
                    found++;
                }
            }
            return found;
        }

        /** Returns the cells that the walker sees, as bits. */
        long seenCells(Scene scene) {
            shine(scene, 0);
            long seen = 0L;
            for (int cell = 0; cell < CELLS; cell++) {
                if ((all[cell] >= scene.dim || isNear(scene, cell))
                        && line.isFreeAlong(scene.kinds, scene.walker, cell)) {
                    seen |= 1L << cell;
                }
            }
            return seen;
        }

        private static boolean isNear(Scene scene, int cell) {
            return Grid.rowsBetween(scene.walker, cell) <= scene.torch
                    && Grid.columnsBetween(scene.walker, cell) <= scene.torch;
        }

        /** Returns the lamps that give a cell light, as bits. */
        int givers(Scene scene, int cell) {
            int bits = 0;
            for (int lamp = 0; lamp < scene.lamps; lamp++) {
                if (gift(scene, lamp, cell, 0) > 0) {
                    bits |= 1 << lamp;
                }
            }
            return bits;
        }

        int reachOfLamp(Scene scene, int lamp) {
            int found = 0;
            for (int cell = 0; cell < CELLS; cell++) {
                if (gift(scene, lamp, cell, 0) > 0) {
                    found++;
                }
            }
            return found;
        }

        /** Returns how many lit cells would not be lit without a lamp. */
        int needOfLamp(Scene scene, int lamp) {
            shine(scene, 0);
            int found = 0;
            for (int cell = 0; cell < CELLS; cell++) {
                if (all[cell] >= scene.dim && all[cell] - gift(scene, lamp, cell, 0) < scene.dim) {
                    found++;
                }
            }
            return found;
        }

        int sum(Scene scene) {
            shine(scene, 0);
            int sum = 0;
            for (int cell = 0; cell < CELLS; cell++) {
                sum += all[cell];
            }
            return sum;
        }

        /** Returns the lowest cell with the greatest light. */
        int brightest(Scene scene) {
            shine(scene, 0);
            int best = 0;
            for (int cell = 1; cell < CELLS; cell++) {
                if (all[cell] > all[best]) {
                    best = cell;
                }
            }
            return best;
        }

        /** Returns the cell with room for a lamp with which most cells would be lit, or NOT_FOUND. */
        int bestCell(Scene scene, int strength) {
            shine(scene, 0);
            int best = NOT_FOUND;
            int most = -1;
            for (int cell = 0; cell < CELLS; cell++) {
                int lit = scene.hasRoomForLamp(cell) ? litWithLamp(scene, strength, cell) : -1;
                if (lit > most) {
                    most = lit;
                    best = cell;
                }
            }
            return best;
        }

        private int litWithLamp(Scene scene, int strength, int from) {
            int found = 0;
            for (int cell = 0; cell < CELLS; cell++) {
                int needed = scene.dim - all[cell];
                if (needed <= 0 || strengthAt(strength, from, cell) >= needed
                        && line.isFreeAlong(scene.kinds, from, cell)) {
                    found++;
                }
            }
            return found;
        }
    }

    /** The ways of a walker, and how exposed they are. */
    private static final class Ways {
        /** More than any way on the map can cost. */
        private static final int NO_WAY = 1000000;

        /** What a step into a cell costs, 0 for a cell that stops feet. */
        private final int[] price = new int[CELLS];
        /** The least exposure from the start to a cell, as far as it is known. */
        private final int[] least = new int[CELLS];
        private final boolean[] settled = new boolean[CELLS];
        private final int[] reached = new int[CELLS];

        void weigh(Scene scene, Light light) {
            for (int cell = 0; cell < CELLS; cell++) {
                price[cell] = Grid.stopsFeet(scene.kinds[cell]) ? 0 : 1 + light.at(scene, cell);
            }
        }

        private void startFrom(int start) {
            for (int cell = 0; cell < CELLS; cell++) {
                least[cell] = cell == start ? 0 : NO_WAY;
                settled[cell] = false;
            }
        }

        /** Goes on from the least exposed cell that is not settled yet, one after the other. */
        void settleFrom(int start) {
            startFrom(start);
            for (int round = 0; round < CELLS; round++) {
                int cell = leastUnsettled();
                if (cell == NONE) {
                    return;
                }
                settled[cell] = true;
                lessenAround(cell);
            }
        }

        private int leastUnsettled() {
            int found = NONE;
            for (int cell = 0; cell < CELLS; cell++) {
                if (!settled[cell] && least[cell] < (found == NONE ? NO_WAY : least[found])) {
                    found = cell;
                }
            }
            return found;
        }

        /** Lets cells become less exposed until none does. */
        void lessenFrom(int start) {
            startFrom(start);
            boolean less = true;
            for (int round = 0; round < CELLS && less; round++) {
                less = false;
                for (int cell = 0; cell < CELLS; cell++) {
                    if (least[cell] < NO_WAY && lessenAround(cell)) {
                        less = true;
                    }
                }
            }
        }

        /** Tells whether a neighbour of a cell became less exposed by a step from this cell. */
        private boolean lessenAround(int cell) {
            boolean less = false;
            for (int direction = 0; direction < DIRECTIONS; direction++) {
                int next = Grid.neighbour(cell, direction);
                if (next != NONE && price[next] > 0 && least[cell] + price[next] < least[next]) {
                    least[next] = least[cell] + price[next];
                    less = true;
                }
            }
            return less;
        }

        int leastTo(int cell) {
            return least[cell] < NO_WAY ? least[cell] : NOT_FOUND;
        }

        /** Returns a cell of the way from a cell to the goal, from which the ways were settled. */
        int cellOnWay(int from, int goal, int index) {
            if (least[from] >= NO_WAY) {
                return NOT_FOUND;
            }
            int cell = from;
            for (int i = 0; i < index && i < CELLS; i++) {
                if (cell == goal) {
                    return NOT_FOUND;
                }
                cell = nextOnWay(cell);
            }
            return cell;
        }

        // A way read backwards goes through the same cells. So what is left from a cell to the goal
        // is the least exposure from the goal to it, but with the goal's price in place of its own,
        // and a step keeps the least one if the way from the goal comes from there.
        private int nextOnWay(int cell) {
            for (int direction = 0; direction < DIRECTIONS; direction++) {
                int next = Grid.neighbour(cell, direction);
                if (next != NONE && least[next] + price[cell] == least[cell]) {
                    return next;
                }
            }
            return cell;
        }

        int reachedCells(Scene scene) {
            long known = 1L << scene.walker;
            int found = 1;
            reached[0] = scene.walker;
            for (int i = 0; i < found && i < CELLS; i++) {
                for (int direction = 0; direction < DIRECTIONS; direction++) {
                    int next = scene.nextOnFoot(reached[i], direction);
                    if (next != NONE && bitOf(known, next) == 0 && found < CELLS) {
                        known |= 1L << next;
                        reached[found] = next;
                        found++;
                    }
                }
            }
            return found;
        }
    }

    /** The text that is read as a map or as a walk. */
    private static final class Pad {
        static final int LIMIT = 80;
        /** A row of the map and the sign behind it. */
        private static final int ROW_LENGTH = SIDE + 1;
        private static final int MAP_LENGTH = SIDE * ROW_LENGTH - 1;

        private final char[] signs = new char[LIMIT];
        int length;

        void add(char sign) {
            if (length < LIMIT) {
                signs[length] = sign;
                length++;
            }
        }

        /** Returns the first wrong position, the pad's length if it is not complete, or NOT_FOUND. */
        int faultAsMap(int walker) {
            for (int at = 0; at < length; at++) {
                if (!fitsMap(at, walker)) {
                    return at;
                }
            }
            return length < MAP_LENGTH ? length : NOT_FOUND;
        }

        private boolean fitsMap(int at, int walker) {
            if (at >= MAP_LENGTH) {
                return false;
            }
            int column = at % ROW_LENGTH;
            if (column == SIDE) {
                return signs[at] == '/';
            }
            int kind = kindOf(signs[at]);
            int cell = at / ROW_LENGTH * SIDE + column;
            return kind != NONE && !(cell == walker && Grid.stopsFeet(kind));
        }

        private static int kindOf(char sign) {
            if (sign == '.') {
                return FLOOR;
            }
            if (sign == '#') {
                return WALL;
            }
            if (sign == '=') {
                return GLASS;
            }
            return sign == '~' ? CURTAIN : NONE;
        }

        /** Returns the kind of a cell in a pad without a fault as a map. */
        int kindAt(int cell) {
            return kindOf(signs[Grid.row(cell) * ROW_LENGTH + Grid.column(cell)]);
        }

        /** Returns the first wrong position, 0 if the pad is empty, or NOT_FOUND. */
        int faultAsWalk() {
            for (int at = 0; at < length; at++) {
                if (signs[at] < '0' || signs[at] > '3') {
                    return at;
                }
            }
            return length == 0 ? 0 : NOT_FOUND;
        }

        /** Returns the direction at a position of a pad without a fault as a walk. */
        int directionAt(int at) {
            return signs[at] - '0';
        }
    }

    /** The states before the latest changes, the oldest one first. */
    private static final class History {
        private final Scene[] states = new Scene[STATE_LIMIT];
        int size;

        History() {
            for (int i = 0; i < STATE_LIMIT; i++) {
                states[i] = new Scene();
            }
        }

        void record(Scene scene) {
            if (size >= STATE_LIMIT) {
                dropOldest();
            }
            states[size].copyFrom(scene);
            size++;
        }

        private void dropOldest() {
            Scene oldest = states[0];
            for (int i = 1; i < STATE_LIMIT; i++) {
                states[i - 1] = states[i];
            }
            // Its object is used again, so that a change makes none.
            states[STATE_LIMIT - 1] = oldest;
            size = STATE_LIMIT - 1;
        }

        void takeBack(Scene scene) {
            if (size > 0) {
                size--;
                scene.copyFrom(states[size]);
            }
        }
    }
}

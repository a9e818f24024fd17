/** What looks tell of an object, as a text: two objects in the same state tell the same. */
final class Told {
    /** How many calls all() makes at most: an object is used for 512 alone. */
    static final int CALLS = 16 + 18 + 2 * 64;

    private Told() {
    }

    /** Tells all that the history and the snapshot keep. */
    static String all(PillarLight x) {
        StringBuilder told = new StringBuilder();
        for (int what = 0; what <= 15; what++) {
            told.append(x.count(what)).append(' ');
        }
        lamps(x, told);
        for (int cell = 0; cell < 64; cell++) {
            told.append(x.cell(cell, 0)).append(x.cell(cell, 4));
        }
        return told.toString();
    }

    /** Tells less with some 30 calls: counts and lamps, the pad's length and the states too. */
    static String brief(PillarLight x) {
        StringBuilder told = new StringBuilder();
        for (int what = 4; what <= 17; what++) {
            told.append(x.count(what)).append(' ');
        }
        lamps(x, told);
        return told.toString();
    }

    private static void lamps(PillarLight x, StringBuilder told) {
        for (int lamp = 0; lamp < 6 && x.lampOf(lamp, 0) >= 0; lamp++) {
            told.append(x.lampOf(lamp, 0)).append(':').append(x.lampOf(lamp, 1));
            told.append(':').append(x.lampOf(lamp, 4)).append(' ');
        }
    }
}

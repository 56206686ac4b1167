/** All that an object lets one see of its state, now and some days on, in some 350 calls. */
final class Track {
    private static final int CELLS = 60;

    private Track() {
    }

    static String of(GyreWatch x) {
        StringBuilder seen = new StringBuilder();
        addSeen(seen, x);
        seen.append(" day ").append(pass(x));
        addSeen(seen, x);
        addSettings(seen, x);
        return seen.toString();
    }

    /** What the questions answer. */
    static void addSeen(StringBuilder seen, GyreWatch x) {
        seen.append(" day ").append(x.day()).append(" stations ").append(x.stations());
        for (int what = 0; what < 3; what++) {
            seen.append(' ').append(x.total(what));
        }
        for (int cell = 0; cell < CELLS; cell++) {
            seen.append(' ').append(x.ofLayer(cell, cell % 2, cell / 2 % 3));
        }
        for (int i = 0; i < 8; i++) {
            seen.append(" float ").append(ofFloat(x, i, 0)).append(' ').append(ofFloat(x, i, 1));
            seen.append(' ').append(ofFloat(x, i, 3));
        }
        int readings = x.readings();
        seen.append(" readings ").append(readings);
        for (int i = Math.max(0, readings - 5); i < readings; i++) {
            seen.append(' ').append(x.ofReading(i, 3)).append(' ').append(x.ofReading(i, 4));
        }
        for (int i = 0; i < 4; i++) {
            seen.append(" search ").append(chance(x, i, 0)).append(' ').append(chance(x, i, 1));
        }
        seen.append(" tide ").append(x.tide(0)).append(' ').append(x.tide(1)).append(' ').append(x.tide(5));
    }

    /** What is seen only by telling it anew. */
    private static void addSettings(StringBuilder seen, GyreWatch x) {
        seen.append(" bound ").append(x.bound(7));
        for (int y = 0; y < 6; y++) {
            seen.append(' ').append(x.sun(y, 1));
        }
        for (int cell = 0; cell < CELLS; cell++) {
            seen.append(' ').append(x.current(cell, 1));
        }
    }

    private static int pass(GyreWatch x) {
        return x.day() + 3 > 1000 ? x.day() : x.pass(3);
    }

    private static String ofFloat(GyreWatch x, int which, int what) {
        try {
            return Integer.toString(x.ofFloat(which, what));
        } catch (IndexOutOfBoundsException e) {
            return "none";
        }
    }

    private static String chance(GyreWatch x, int search, int cell) {
        try {
            return Integer.toString(x.chance(search, cell));
        } catch (IndexOutOfBoundsException e) {
            return "none";
        }
    }
}

/** All that an object lets one see of its state, now and some days on, by looks of some 350 calls at most. */
final class Track {
    /** An object serves one look alone, as it answers 512 calls and no more. */
    interface Look {
        String of(GyreWatch x);
    }

    static final Look[] LOOKS = {
        Track::of, Track::ofLayers, Track::ofFloats, Track::ofReadings, Track::ofFlags, Track::ofMaps,
        Track::ofSearches, Track::ofTides, Track::ofDaysOn, Track::ofRoomLeft,
    };
    private static final int CELLS = 60;

    private interface Question {
        int ask();
    }

    private Track() {
    }

    /** A little of everything, now and three days on. */
    static String of(GyreWatch x) {
        StringBuilder seen = new StringBuilder();
        addSeen(seen, x);
        add(seen, () -> x.pass(3));
        addSeen(seen, x);
        addSettings(seen, x);
        return seen.toString();
    }

    /** The number, or the name of what is thrown. */
    private static void add(StringBuilder seen, Question question) {
        seen.append(' ');
        try {
            seen.append(question.ask());
        } catch (RuntimeException e) {
            seen.append(e.getClass().getSimpleName());
        }
    }

    private static void addSeen(StringBuilder seen, GyreWatch x) {
        seen.append(" day ").append(x.day()).append(" stations ").append(x.stations());
        for (int what = 0; what < 3; what++) {
            seen.append(' ').append(x.total(what));
        }
        for (int cell = 0; cell < CELLS; cell++) {
            seen.append(' ').append(x.ofLayer(cell, cell % 2, cell / 2 % 3));
        }
        for (int i = 0; i < 8; i++) {
            int which = i;
            add(seen, () -> x.ofFloat(which, which % 5));
        }
        int readings = x.readings();
        seen.append(" readings ").append(readings);
        for (int i = Math.max(0, readings - 5); i < readings; i++) {
            seen.append(' ').append(x.ofReading(i, 3)).append(' ').append(x.ofReading(i, 4));
        }
        seen.append(" tide ").append(x.tide(0)).append(' ').append(x.tide(1)).append(' ').append(x.tide(5));
    }

    /** What is seen only by telling it anew. */
    private static void addSettings(StringBuilder seen, GyreWatch x) {
        seen.append(" bound ").append(x.bound(7));
        for (int y = 0; y < 6; y++) {
            seen.append(' ').append(x.sun(y, 1));
        }
        for (int cell = 0; cell < CELLS; cell++) {
            seen.append(' ').append(x.current(cell, 1));
        }
    }

    private static String ofLayers(GyreWatch x) {
        StringBuilder seen = new StringBuilder();
        for (int i = 0; i < 4 * CELLS; i++) {
            seen.append(' ').append(x.ofLayer(i / 4, i / 2 % 2, i % 2));
        }
        return seen.toString();
    }

    private static String ofFloats(GyreWatch x) {
        StringBuilder seen = new StringBuilder();
        for (int i = 0; i < 40; i++) {
            int asked = i;
            add(seen, () -> x.ofFloat(asked / 5, asked % 5));
        }
        for (int i = 0; i < 8; i++) {
            int which = i;
            add(seen, () -> x.calibrate(which));
        }
        return seen.toString();
    }

    private static String ofReadings(GyreWatch x) {
        StringBuilder seen = new StringBuilder();
        int readings = x.readings();
        for (int i = 0; i < readings; i++) {
            seen.append(' ').append(x.ofReading(i, 0)).append(' ').append(x.ofReading(i, 1));
            seen.append(' ').append(x.ofReading(i, 2)).append(' ').append(x.ofReading(i, 5));
        }
        return seen.toString();
    }

    /** Flags as they are, and as they are by themselves. */
    private static String ofFlags(GyreWatch x) {
        StringBuilder seen = new StringBuilder();
        int readings = x.readings();
        for (int i = 0; i < readings; i++) {
            seen.append(' ').append(x.ofReading(i, 3)).append(' ').append(x.flag(i, GyreWatch.NONE));
            seen.append(' ').append(x.ofReading(i, 4));
        }
        return seen.toString();
    }

    private static String ofMaps(GyreWatch x) {
        StringBuilder seen = new StringBuilder();
        for (int i = 0; i < CELLS; i++) {
            int cell = i;
            add(seen, () -> x.mean(cell, x.day(), 3));
            add(seen, () -> x.error(cell, x.day(), 3));
        }
        for (int i = 0; i < 100; i++) {
            int reading = i;
            add(seen, () -> x.residual(reading, 2));
        }
        return seen.toString();
    }

    private static String ofSearches(GyreWatch x) {
        StringBuilder seen = new StringBuilder();
        for (int i = 0; i < 4 * CELLS; i++) {
            int asked = i;
            add(seen, () -> x.chance(asked / CELLS, asked % CELLS));
        }
        for (int i = 0; i < 4; i++) {
            int search = i;
            add(seen, () -> x.best(search));
            add(seen, () -> x.plan(search, 5, 40));
        }
        return seen.toString();
    }

    private static String ofTides(GyreWatch x) {
        StringBuilder seen = new StringBuilder();
        for (int time = 0; time < 130; time++) {
            seen.append(' ').append(x.tide(time));
        }
        seen.append(" highest ").append(x.highest(0, 500)).append(' ').append(x.highest(99501, 100000));
        return seen.toString();
    }

    /** Stations that are read, storms that cancel them, floats that rise, for forty days. */
    private static String ofDaysOn(GyreWatch x) {
        StringBuilder seen = new StringBuilder();
        for (int i = 0; i < 40; i++) {
            add(seen, () -> x.pass(1));
            seen.append(' ').append(x.readings()).append(' ').append(x.stations());
        }
        int readings = x.readings();
        for (int i = Math.max(0, readings - 60); i < readings; i++) {
            seen.append(' ').append(x.ofReading(i, 0)).append(' ').append(x.ofReading(i, 2));
        }
        for (int i = 0; i < CELLS; i++) {
            int cell = i;
            add(seen, () -> x.chance(0, cell));
        }
        return seen.toString();
    }

    /** How much more can be told, by telling it, and which days had a storm or a station ahead of that. */
    private static String ofRoomLeft(GyreWatch x) {
        StringBuilder seen = new StringBuilder();
        int day = Math.min(1000, x.day() + 4);
        for (int i = 0; i < 31; i++) {
            int cell = i;
            add(seen, () -> x.station(day, cell));
        }
        for (int i = 0; i < 21; i++) {
            int to = Math.min(1000, day + 2 * i);
            add(seen, () -> x.storm(day, to));
        }
        for (int i = 0; i < 9; i++) {
            int cell = i;
            add(seen, () -> x.lay(cell, 1, 1, 0));
            add(seen, () -> x.search(cell));
            add(seen, () -> x.part(2, 1, 0));
        }
        for (int i = 0; i < CELLS; i++) {
            int cell = i;
            add(seen, () -> x.land(cell));
        }
        return seen.toString();
    }
}

import java.util.ArrayList;
import java.util.List;
import java.util.TreeMap;
import java.util.TreeSet;

/** The document told once more, as plainly as it goes: each answer is a number or an exception's name. */
final class Oracle {
    private static final String INDEX = "IndexOutOfBoundsException";
    private static final String ARGUMENT = "IllegalArgumentException";
    private static final String STATE = "IllegalStateException";
    private static final int[][] STEPS = {{0, 0}, {1, 0}, {-1, 0}, {0, 1}, {0, -1}};

    private static final class Drifter {
        int cell;
        int parks;
        int daysLeft;
        int battery;
        int bias;
        int correction;
    }

    private static final class Noted {
        int day;
        int cell;
        int value;
        int floatNumber;
        Integer byHand;
    }

    private final TreeSet<Integer> lands = new TreeSet<>();
    private final int[] currents = new int[60];
    private final int[] suns = new int[6];
    private final long[][] heat = new long[60][2];
    private final long[][] salt = new long[60][2];
    private final List<Drifter> floats = new ArrayList<>();
    private final List<Noted> readings = new ArrayList<>();
    private final TreeMap<Integer, TreeSet<Integer>> stations = new TreeMap<>();
    private final TreeSet<Integer> stormDays = new TreeSet<>();
    private final List<long[]> searches = new ArrayList<>();
    private final List<Integer> beginnings = new ArrayList<>();
    private final List<int[]> parts = new ArrayList<>();
    private int storms;
    private int bound = 100;
    private int day;
    private long gift;

    Oracle() {
        for (int cell = 0; cell < 60; cell++) {
            heat[cell] = new long[] {1000, 400};
            salt[cell] = new long[] {350, 360};
        }
    }

    String answer(String name, int[] a) {
        switch (name) {
            case "land": return land(a[0]);
            case "current": return current(a[0], a[1]);
            case "sun": return sun(a[0], a[1]);
            case "pass": return pass(a[0]);
            case "lay": return lay(a[0], a[1], a[2], a[3]);
            case "station": return station(a[0], a[1]);
            case "storm": return storm(a[0], a[1]);
            case "calibrate": return calibrate(a[0]);
            case "flag": return flag(a[0], a[1]);
            case "bound": return bound(a[0]);
            case "search": return search(a[0]);
            case "leg": return leg(a[0], a[1], a[2]);
            case "part": return part(a[0], a[1], a[2]);
            default: return asked(name, a);
        }
    }

    private String asked(String name, int[] a) {
        switch (name) {
            case "day": return "" + day;
            case "ofLayer": return ofLayer(a[0], a[1], a[2]);
            case "total": return total(a[0]);
            case "ofFloat": return ofFloat(a[0], a[1]);
            case "stations": return "" + toCome();
            case "readings": return "" + readings.size();
            case "ofReading": return ofReading(a[0], a[1]);
            case "mean": return mean(a[0], a[1], a[2]);
            case "error": return error(a[0], a[1], a[2]);
            case "residual": return residual(a[0], a[1]);
            case "chance": return !isSearch(a[0]) || !isCell(a[1]) ? INDEX : "" + searches.get(a[0])[a[1]];
            case "best": return isSearch(a[0]) ? "" + best(searches.get(a[0])) : INDEX;
            case "plan": return plan(a[0], a[1], a[2]);
            case "tide": return in(a[0], 0, 100000) ? "" + tide(a[0]) : ARGUMENT;
            case "highest": return highest(a[0], a[1]);
            default: throw new AssertionError(name);
        }
    }

    private static boolean in(int value, int least, int most) {
        return least <= value && value <= most;
    }

    private static boolean isCell(int cell) {
        return in(cell, 0, 59);
    }

    private boolean isSearch(int search) {
        return in(search, 0, searches.size() - 1);
    }

    private boolean isFloat(int which) {
        return in(which, 0, floats.size() - 1);
    }

    private boolean isReading(int reading) {
        return in(reading, 0, readings.size() - 1);
    }

    private int toCome() {
        int sum = 0;
        for (TreeSet<Integer> cells : stations.values()) {
            sum += cells.size();
        }
        return sum;
    }

    private String land(int cell) {
        if (!isCell(cell)) {
            return INDEX;
        }
        boolean taken = beginnings.contains(cell);
        for (Drifter each : floats) {
            taken |= each.cell == cell;
        }
        for (TreeSet<Integer> cells : stations.values()) {
            taken |= cells.contains(cell);
        }
        if (day != 0 || taken || !lands.add(cell)) {
            return STATE;
        }
        heat[cell] = new long[2];
        salt[cell] = new long[2];
        return "" + lands.size();
    }

    private String current(int cell, int current) {
        if (!isCell(cell)) {
            return INDEX;
        }
        if (!in(current, 0, 4)) {
            return ARGUMENT;
        }
        int was = currents[cell];
        currents[cell] = current;
        return "" + was;
    }

    private String sun(int y, int sun) {
        if (!in(y, 0, 5) || !in(sun, -50, 50)) {
            return ARGUMENT;
        }
        int was = suns[y];
        suns[y] = sun;
        return "" + was;
    }

    private String lay(int cell, int parks, int battery, int bias) {
        if (!isCell(cell)) {
            return INDEX;
        }
        if (!in(parks, 1, 20) || !in(battery, 1, 100) || !in(bias, -50, 50)) {
            return ARGUMENT;
        }
        if (lands.contains(cell) || floats.size() == 8) {
            return STATE;
        }
        Drifter laid = new Drifter();
        laid.cell = cell;
        laid.parks = parks;
        laid.daysLeft = parks;
        laid.battery = battery;
        laid.bias = bias;
        floats.add(laid);
        return "" + (floats.size() - 1);
    }

    private String station(int told, int cell) {
        if (!isCell(cell)) {
            return INDEX;
        }
        if (!in(told, day + 1, 1000)) {
            return ARGUMENT;
        }
        TreeSet<Integer> cells = stations.getOrDefault(told, new TreeSet<>());
        if (lands.contains(cell) || cells.contains(cell) || toCome() == 30) {
            return STATE;
        }
        cells.add(cell);
        stations.put(told, cells);
        return "" + toCome();
    }

    private String storm(int from, int to) {
        if (!in(from, day + 1, 1000) || !in(to, from, 1000)) {
            return ARGUMENT;
        }
        if (storms == 20) {
            return STATE;
        }
        storms++;
        int cancelled = 0;
        for (int each = from; each <= to; each++) {
            if (stormDays.add(each) && stations.containsKey(each)) {
                cancelled += stations.get(each).size();
            }
        }
        return "" + cancelled;
    }

    private String calibrate(int which) {
        if (!isFloat(which)) {
            return INDEX;
        }
        for (int i = readings.size() - 1; i >= 0; i--) {
            Noted own = readings.get(i);
            for (int apart = 0; apart <= 2 && own.floatNumber == which; apart++) {
                for (Noted ship : readings) {
                    if (ship.floatNumber == -1 && ship.cell == own.cell && Math.abs(ship.day - own.day) == apart) {
                        floats.get(which).correction = own.value - ship.value;
                        return "" + floats.get(which).correction;
                    }
                }
            }
        }
        return STATE;
    }

    private String flag(int reading, int flag) {
        if (!isReading(reading)) {
            return INDEX;
        }
        if (!in(flag, -1, 2)) {
            return ARGUMENT;
        }
        int was = flagOf(reading);
        readings.get(reading).byHand = flag == -1 ? null : Integer.valueOf(flag);
        return "" + was;
    }

    private String bound(int told) {
        if (!in(told, 0, 1000)) {
            return ARGUMENT;
        }
        int was = bound;
        bound = told;
        return "" + was;
    }

    private String search(int cell) {
        if (!isCell(cell)) {
            return INDEX;
        }
        if (lands.contains(cell) || searches.size() == 4) {
            return STATE;
        }
        long[] chances = new long[60];
        chances[cell] = 10000;
        searches.add(chances);
        beginnings.add(cell);
        return "" + (searches.size() - 1);
    }

    private String leg(int search, int cell, int hundredths) {
        if (!isSearch(search) || !isCell(cell)) {
            return INDEX;
        }
        if (!in(hundredths, 1, 100)) {
            return ARGUMENT;
        }
        long less = searches.get(search)[cell] * hundredths / 100;
        searches.get(search)[cell] -= less;
        return "" + less;
    }

    private String part(int period, int height, int phase) {
        if (!in(period, 2, 60) || !in(height, 0, 100) || !in(phase, 0, period - 1)) {
            return ARGUMENT;
        }
        if (parts.size() == 6) {
            return STATE;
        }
        parts.add(new int[] {period, height, phase});
        return "" + parts.size();
    }

    private String pass(int days) {
        if (!in(days, 1, 50)) {
            return ARGUMENT;
        }
        if (day + days > 1000) {
            return STATE;
        }
        for (int i = 0; i < days; i++) {
            day++;
            flow();
            shine();
            turn();
            rise();
            for (int s = 0; s < searches.size(); s++) {
                searches.set(s, spread(searches.get(s)));
            }
            sail();
        }
        return "" + day;
    }

    /** The SEA cell one step away, or -1. */
    private int there(int cell, int direction) {
        int x = cell % 10 + STEPS[direction][0];
        int y = cell / 10 + STEPS[direction][1];
        boolean isSea = direction != 0 && in(x, 0, 9) && in(y, 0, 5) && !lands.contains(10 * y + x);
        return isSea ? 10 * y + x : -1;
    }

    private void flow() {
        long[] heatMore = new long[60];
        long[] saltMore = new long[60];
        for (int cell = 0; cell < 60; cell++) {
            int to = there(cell, currents[cell]);
            if (!lands.contains(cell) && to != -1) {
                heatMore[cell] -= heat[cell][0] / 10;
                heatMore[to] += heat[cell][0] / 10;
                saltMore[cell] -= salt[cell][0] / 10;
                saltMore[to] += salt[cell][0] / 10;
            }
        }
        for (int cell = 0; cell < 60; cell++) {
            heat[cell][0] += heatMore[cell];
            salt[cell][0] += saltMore[cell];
        }
    }

    private void shine() {
        for (int cell = 0; cell < 60; cell++) {
            if (!lands.contains(cell)) {
                long more = Math.max(suns[cell / 10], -heat[cell][0]);
                heat[cell][0] += more;
                gift += more;
            }
        }
    }

    private void turn() {
        for (int cell = 0; cell < 60; cell++) {
            if (5 * salt[cell][0] - heat[cell][0] > 5 * salt[cell][1] - heat[cell][1]) {
                long warm = heat[cell][0] + heat[cell][1];
                long salty = salt[cell][0] + salt[cell][1];
                heat[cell] = new long[] {warm / 2, warm - warm / 2};
                salt[cell] = new long[] {salty / 2, salty - salty / 2};
            }
        }
    }

    private void rise() {
        for (int i = 0; i < floats.size(); i++) {
            Drifter each = floats.get(i);
            if (each.battery == 0) {
                continue;
            }
            each.daysLeft--;
            if (each.daysLeft == 0) {
                int to = there(each.cell, currents[each.cell]);
                each.cell = to == -1 ? each.cell : to;
                read(each.cell, each.bias, i);
                each.battery--;
                each.daysLeft = each.battery == 0 ? 0 : each.parks;
            }
        }
    }

    private void read(int cell, int bias, int floatNumber) {
        if (readings.size() < 100) {
            Noted made = new Noted();
            made.day = day;
            made.cell = cell;
            made.value = (int) heat[cell][0] + bias;
            made.floatNumber = floatNumber;
            readings.add(made);
        }
    }

    private long[] spread(long[] had) {
        long[] then = had.clone();
        for (int cell = 0; cell < 60; cell++) {
            for (int direction = 1; direction <= 4; direction++) {
                int to = there(cell, direction);
                if (to != -1) {
                    long given = had[cell] / 10 + (currents[cell] == direction ? 4 * had[cell] / 10 : 0);
                    then[cell] -= given;
                    then[to] += given;
                }
            }
        }
        return then;
    }

    private void sail() {
        TreeSet<Integer> cells = stations.remove(day);
        if (cells != null && !stormDays.contains(day)) {
            for (int cell : cells) {
                read(cell, 0, -1);
            }
        }
    }

    private int corrected(Noted reading) {
        return reading.value - (reading.floatNumber == -1 ? 0 : floats.get(reading.floatNumber).correction);
    }

    private int flagOf(int number) {
        Noted asked = readings.get(number);
        if (asked.byHand != null) {
            return asked.byHand;
        }
        Noted ahead = null;
        Noted behind = null;
        for (int i = 0; i < readings.size() && asked.floatNumber != -1; i++) {
            Noted other = readings.get(i);
            if (other.floatNumber == asked.floatNumber && i < number) {
                ahead = other;
            }
            if (other.floatNumber == asked.floatNumber && i > number && behind == null) {
                behind = other;
            }
        }
        if (ahead == null || behind == null) {
            return 0;
        }
        int least = Math.min(corrected(ahead), corrected(behind));
        int most = Math.max(corrected(ahead), corrected(behind));
        return corrected(asked) > most + bound || corrected(asked) < least - bound ? 1 : 0;
    }

    private String ofLayer(int cell, int layer, int what) {
        if (!isCell(cell)) {
            return INDEX;
        }
        if (!in(layer, 0, 1) || !in(what, 0, 2)) {
            return ARGUMENT;
        }
        long[] numbers = {heat[cell][layer], salt[cell][layer], 5 * salt[cell][layer] - heat[cell][layer]};
        return "" + numbers[what];
    }

    private String total(int what) {
        if (!in(what, 0, 2)) {
            return ARGUMENT;
        }
        long sum = what == 2 ? gift : 0;
        for (int cell = 0; cell < 60 && what < 2; cell++) {
            long[] both = what == 0 ? heat[cell] : salt[cell];
            sum += both[0] + both[1];
        }
        return "" + sum;
    }

    private String ofFloat(int which, int what) {
        if (!isFloat(which)) {
            return INDEX;
        }
        if (!in(what, 0, 4)) {
            return ARGUMENT;
        }
        int kept = 0;
        for (Noted each : readings) {
            kept += each.floatNumber == which ? 1 : 0;
        }
        Drifter asked = floats.get(which);
        return "" + new int[] {asked.cell, asked.daysLeft, asked.battery, asked.correction, kept}[what];
    }

    private String ofReading(int number, int what) {
        if (!isReading(number)) {
            return INDEX;
        }
        if (!in(what, 0, 5)) {
            return ARGUMENT;
        }
        Noted asked = readings.get(number);
        return "" + new int[] {asked.day, asked.cell, asked.value, corrected(asked), flagOf(number),
            asked.floatNumber}[what];
    }

    /** The sum of weights, and that of CORRECTED values each times its weight. */
    private long[] sums(int cell, int mapDay, int span, int without) {
        long[] sums = new long[2];
        for (int i = 0; i < readings.size(); i++) {
            Noted each = readings.get(i);
            int far = Math.abs(each.cell % 10 - cell % 10) + Math.abs(each.cell / 10 - cell / 10);
            boolean counts = i != without && flagOf(i) == 0 && Math.abs(each.day - mapDay) <= span && far < 8;
            sums[0] += counts ? 8 - far : 0;
            sums[1] += counts ? (8L - far) * corrected(each) : 0;
        }
        return sums;
    }

    private String mean(int cell, int mapDay, int span) {
        if (!isCell(cell)) {
            return INDEX;
        }
        if (!in(mapDay, 0, 1000) || !in(span, 0, 1000)) {
            return ARGUMENT;
        }
        long[] sums = sums(cell, mapDay, span, -1);
        return lands.contains(cell) || sums[0] == 0 ? STATE : "" + sums[1] / sums[0];
    }

    private String error(int cell, int mapDay, int span) {
        if (!isCell(cell)) {
            return INDEX;
        }
        if (!in(mapDay, 0, 1000) || !in(span, 0, 1000)) {
            return ARGUMENT;
        }
        return lands.contains(cell) ? STATE : "" + 1000 / (1 + sums(cell, mapDay, span, -1)[0]);
    }

    private String residual(int number, int span) {
        if (!isReading(number)) {
            return INDEX;
        }
        if (!in(span, 0, 1000)) {
            return ARGUMENT;
        }
        Noted left = readings.get(number);
        long[] sums = sums(left.cell, left.day, span, number);
        return sums[0] == 0 ? STATE : "" + (corrected(left) - sums[1] / sums[0]);
    }

    private static int best(long[] chances) {
        int best = 59;
        for (int cell = 58; cell >= 0; cell--) {
            best = chances[cell] >= chances[best] ? cell : best;
        }
        return best;
    }

    private String plan(int search, int legs, int hundredths) {
        if (!isSearch(search)) {
            return INDEX;
        }
        if (!in(legs, 1, 20) || !in(hundredths, 1, 100)) {
            return ARGUMENT;
        }
        long[] chances = searches.get(search).clone();
        long sum = 0;
        for (int i = 0; i < legs; i++) {
            int cell = best(chances);
            long less = chances[cell] * hundredths / 100;
            chances[cell] -= less;
            sum += less;
        }
        return "" + sum;
    }

    private int tide(int time) {
        int sum = 0;
        for (int[] each : parts) {
            int k = (time + each[2]) % each[0];
            sum += each[1] * (2 * Math.abs(2 * k - each[0]) - each[0]) / each[0];
        }
        return sum;
    }

    private String highest(int from, int to) {
        if (!in(from, 0, 100000) || to < from || to > from + 500 || to > 100000) {
            return ARGUMENT;
        }
        int first = to;
        for (int time = to; time >= from; time--) {
            first = tide(time) >= tide(first) ? time : first;
        }
        return "" + first;
    }
}

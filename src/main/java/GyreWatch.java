import java.util.Arrays;

/** The open sea watched: its layers, floats, ships, readings, maps, searches and tides. */
public final class GyreWatch {
    /** There is none. */
    public static final int NONE = -1;
    /** Layers. */
    public static final int UPPER = 0, LOWER = 1;
    /** Flags. */
    public static final int GOOD = 0, SPIKE = 1, BAD = 2;

    private static final int WIDTH = 10, HEIGHT = 6, CELLS = WIDTH * HEIGHT;
    private static final int DIRECTIONS = 4;
    private static final int LAST_DAY = 1000, MOST_DAYS_AT_ONCE = 50;
    private static final int LAST_TIME = 100000, LONGEST_LOOK = 500;
    private static final int MOST_FLOATS = 8, MOST_READINGS = 100;
    private static final int MOST_STATIONS = 30, MOST_STORMS = 20;
    private static final int MOST_SEARCHES = 4, MOST_PARTS = 6;
    private static final int ALL_CHANCES = 10000;
    private static final int FIRST_BOUND = 100;
    private static final int DAYS_TO_COMPARE = 2;
    private static final int REACH = 8;
    private static final int FULL_ERROR = 1000;

    private final Sea sea = new Sea();
    private final Buoy[] buoys = new Buoy[MOST_FLOATS];
    private final Log log = new Log();
    private final Ships ships = new Ships();
    private final Search[] searches = new Search[MOST_SEARCHES];
    private final Part[] parts = new Part[MOST_PARTS];
    private int buoyCount;
    private int searchCount;
    private int partCount;
    private int today;

    public GyreWatch() {
    }

    // ---- the sea

    public int land(int cell) throws IndexOutOfBoundsException, IllegalStateException {
        needCell(cell);
        if (today != 0 || sea.isLand(cell) || isTaken(cell)) {
            throw new IllegalStateException("the cell can't be made LAND");
        }
        return sea.makeLand(cell);
    }

    public int current(int cell, int current) throws IndexOutOfBoundsException, IllegalArgumentException {
        needCell(cell);
        needRange(current, 0, DIRECTIONS);
        int before = sea.currents[cell];
        sea.currents[cell] = current;
        return before;
    }

    public int sun(int y, int sun) throws IllegalArgumentException {
        needRange(y, 0, HEIGHT - 1);
        needRange(sun, -50, 50);
        int before = sea.suns[y];
        sea.suns[y] = sun;
        return before;
    }

    public int pass(int days) throws IllegalArgumentException, IllegalStateException {
        needRange(days, 1, MOST_DAYS_AT_ONCE);
        if (days > LAST_DAY - today) {
            throw new IllegalStateException("the day would be above 1000");
        }
        for (int i = 0; i < days; i++) {
            passOneDay();
        }
        return today;
    }

    // ---- floats, ships, readings

    public int lay(int cell, int parks, int battery, int bias)
            throws IndexOutOfBoundsException, IllegalArgumentException, IllegalStateException {
        needCell(cell);
        needRange(parks, 1, 20);
        needRange(battery, 1, 100);
        needRange(bias, -50, 50);
        int number = buoyCount;
        if (sea.isLand(cell) || !isIndex(number, buoys.length)) {
            throw new IllegalStateException("no float can be laid out there");
        }
        buoys[number] = new Buoy(number, cell, parks, battery, bias);
        buoyCount = number + 1;
        return number;
    }

    public int station(int day, int cell)
            throws IndexOutOfBoundsException, IllegalArgumentException, IllegalStateException {
        needCell(cell);
        needRange(day, today + 1, LAST_DAY);
        if (sea.isLand(cell) || ships.hasStation(day, cell) || ships.areAllStationsTold()) {
            throw new IllegalStateException("no station can be told there");
        }
        return ships.tellStation(day, cell);
    }

    public int storm(int from, int to) throws IllegalArgumentException, IllegalStateException {
        needRange(from, today + 1, LAST_DAY);
        needRange(to, from, LAST_DAY);
        if (ships.areAllStormsTold()) {
            throw new IllegalStateException("20 storms were told");
        }
        int cancelled = ships.calmStations(from, to);
        ships.tellStorm(from, to);
        return cancelled;
    }

    public int calibrate(int which) throws IndexOutOfBoundsException, IllegalStateException {
        Buoy buoy = buoyNumbered(which);
        for (Reading own = buoy.latest; own != null; own = own.before) {
            Reading ofShip = log.nearestOfShip(own);
            if (ofShip != null) {
                buoy.correction = own.value - ofShip.value;
                return buoy.correction;
            }
        }
        throw new IllegalStateException("no reading of a ship is near");
    }

    public int flag(int reading, int flag) throws IndexOutOfBoundsException, IllegalArgumentException {
        Reading flagged = readingNumbered(reading);
        needRange(flag, NONE, BAD);
        int before = flagged.flagBy(log.bound);
        flagged.byHand = flag;
        return before;
    }

    public int bound(int bound) throws IllegalArgumentException {
        needRange(bound, 0, 1000);
        int before = log.bound;
        log.bound = bound;
        return before;
    }

    // ---- searches, tides

    public int search(int cell) throws IndexOutOfBoundsException, IllegalStateException {
        needCell(cell);
        int number = searchCount;
        if (sea.isLand(cell) || !isIndex(number, searches.length)) {
            throw new IllegalStateException("no search can begin there");
        }
        searches[number] = new Search(cell);
        searchCount = number + 1;
        return number;
    }

    public int leg(int search, int cell, int hundredths)
            throws IndexOutOfBoundsException, IllegalArgumentException {
        Search flown = searchNumbered(search);
        needCell(cell);
        needRange(hundredths, 1, 100);
        return Search.lookAt(flown.chances, cell, hundredths);
    }

    public int part(int period, int height, int phase) throws IllegalArgumentException, IllegalStateException {
        needRange(period, 2, 60);
        needRange(height, 0, 100);
        needRange(phase, 0, period - 1);
        int number = partCount;
        if (!isIndex(number, parts.length)) {
            throw new IllegalStateException("there are 6 parts");
        }
        parts[number] = new Part(period, height, phase);
        partCount = number + 1;
        return partCount;
    }

    // ---- what is asked

    public int day() {
        return today;
    }

    public int ofLayer(int cell, int layer, int what)
            throws IndexOutOfBoundsException, IllegalArgumentException {
        needCell(cell);
        needRange(layer, UPPER, LOWER);
        needRange(what, 0, 2);
        Layer asked = layer == UPPER ? sea.upper : sea.lower;
        switch (what) {
            case 0: return asked.heat[cell];
            case 1: return asked.salt[cell];
            default: return asked.weightAt(cell);
        }
    }

    public int total(int what) throws IllegalArgumentException {
        needRange(what, 0, 2);
        switch (what) {
            case 0: return sumOf(sea.upper.heat) + sumOf(sea.lower.heat);
            case 1: return sumOf(sea.upper.salt) + sumOf(sea.lower.salt);
            default: return sea.gift;
        }
    }

    public int ofFloat(int which, int what) throws IndexOutOfBoundsException, IllegalArgumentException {
        Buoy buoy = buoyNumbered(which);
        needRange(what, 0, 4);
        switch (what) {
            case 0: return buoy.cell;
            case 1: return buoy.daysLeft;
            case 2: return buoy.battery;
            case 3: return buoy.correction;
            default: return buoy.readingsKept;
        }
    }

    public int stations() {
        return ships.stationCount;
    }

    public int readings() {
        return log.count;
    }

    public int ofReading(int reading, int what) throws IndexOutOfBoundsException, IllegalArgumentException {
        Reading asked = readingNumbered(reading);
        needRange(what, 0, 5);
        switch (what) {
            case 0: return asked.day;
            case 1: return asked.cell;
            case 2: return asked.value;
            case 3: return asked.corrected();
            case 4: return asked.flagBy(log.bound);
            default: return asked.buoy == null ? NONE : asked.buoy.number;
        }
    }

    public int mean(int cell, int day, int span)
            throws IndexOutOfBoundsException, IllegalArgumentException, IllegalStateException {
        needMap(cell, day, span);
        needSea(cell);
        return meanWithout(null, cell, day, span);
    }

    public int error(int cell, int day, int span)
            throws IndexOutOfBoundsException, IllegalArgumentException, IllegalStateException {
        needMap(cell, day, span);
        needSea(cell);
        int divisor = 1 + log.weightsWithout(null, cell, day, span);
        return divisor > 0 ? FULL_ERROR / divisor : 0;
    }

    public int residual(int reading, int span)
            throws IndexOutOfBoundsException, IllegalArgumentException, IllegalStateException {
        Reading left = readingNumbered(reading);
        needRange(span, 0, LAST_DAY);
        return left.corrected() - meanWithout(left, left.cell, left.day, span);
    }

    public int chance(int search, int cell) throws IndexOutOfBoundsException {
        Search asked = searchNumbered(search);
        needCell(cell);
        return asked.chances[cell];
    }

    public int best(int search) throws IndexOutOfBoundsException {
        return Search.bestOf(searchNumbered(search).chances);
    }

    public int plan(int search, int legs, int hundredths)
            throws IndexOutOfBoundsException, IllegalArgumentException {
        Search planned = searchNumbered(search);
        needRange(legs, 1, 20);
        needRange(hundredths, 1, 100);
        return planned.tryLegs(legs, hundredths);
    }

    public int tide(int time) throws IllegalArgumentException {
        needRange(time, 0, LAST_TIME);
        return tideAt(time);
    }

    public int highest(int from, int to) throws IllegalArgumentException {
        needRange(from, 0, LAST_TIME);
        needRange(to, from, Math.min(from + LONGEST_LOOK, LAST_TIME));
        int first = from;
        int most = tideAt(from);
        for (int time = from + 1; time <= to; time++) {
            int tide = tideAt(time);
            if (tide > most) {
                most = tide;
                first = time;
            }
        }
        return first;
    }

    // ---- what the calls share

    private static boolean isIndex(int index, int length) {
        return index >= 0 && index < length;
    }

    private static boolean isCell(int cell) {
        return cell >= 0 && cell < CELLS;
    }

    private static void needCell(int cell) {
        if (!isCell(cell)) {
            throw new IndexOutOfBoundsException("there is no such cell");
        }
    }

    private static void needRange(int value, int least, int most) {
        if (value < least || value > most) {
            throw new IllegalArgumentException("an argument is out of its range");
        }
    }

    private static void needMap(int cell, int day, int span) {
        needCell(cell);
        needRange(day, 0, LAST_DAY);
        needRange(span, 0, LAST_DAY);
    }

    private void needSea(int cell) {
        if (sea.isLand(cell)) {
            throw new IllegalStateException("the cell is LAND");
        }
    }

    private Buoy buoyNumbered(int which) {
        Buoy buoy = isIndex(which, buoys.length) ? buoys[which] : null;
        if (buoy == null) {
            throw new IndexOutOfBoundsException("there is no such float");
        }
        return buoy;
    }

    private Reading readingNumbered(int number) {
        Reading reading = isIndex(number, log.kept.length) ? log.kept[number] : null;
        if (reading == null) {
            throw new IndexOutOfBoundsException("there is no such reading");
        }
        return reading;
    }

    private Search searchNumbered(int number) {
        Search search = isIndex(number, searches.length) ? searches[number] : null;
        if (search == null) {
            throw new IndexOutOfBoundsException("there is no such search");
        }
        return search;
    }

    private static int sumOf(int[] row) {
        int sum = 0;
        for (int amount : row) {
            sum += amount;
        }
        return sum;
    }

    private boolean isTaken(int cell) {
        for (Buoy buoy : buoys) {
            if (buoy != null && buoy.cell == cell) {
                return true;
            }
        }
        for (Search search : searches) {
            if (search != null && search.beginning == cell) {
                return true;
            }
        }
        return ships.hasStationIn(cell);
    }

    private int meanWithout(Reading left, int cell, int day, int span) {
        int weights = log.weightsWithout(left, cell, day, span);
        if (weights <= 0) {
            throw new IllegalStateException("no reading has a weight");
        }
        return (int) (log.weighedValuesWithout(left, cell, day, span) / weights);
    }

    private int tideAt(int time) {
        int sum = 0;
        for (Part part : parts) {
            if (part != null) {
                sum += part.heightAt(time);
            }
        }
        return sum;
    }

    // ---- a day

    private void passOneDay() {
        today++;
        sea.flow();
        sea.shine();
        sea.turnOver();
        for (Buoy buoy : buoys) {
            if (buoy != null && buoy.battery > 0) {
                letDrift(buoy);
            }
        }
        for (Search search : searches) {
            if (search != null) {
                search.goOn(sea);
            }
        }
        readAtStations();
    }

    private void letDrift(Buoy buoy) {
        buoy.daysLeft--;
        if (buoy.daysLeft > 0) {
            return;
        }
        int there = sea.leadsTo(buoy.cell);
        if (there != NONE) {
            buoy.cell = there;
        }
        log.keep(today, buoy.cell, sea.upperHeat(buoy.cell) + buoy.bias, buoy);
        buoy.battery--;
        buoy.daysLeft = buoy.battery > 0 ? buoy.parks : 0;
    }

    private void readAtStations() {
        boolean calm = !ships.hasStorm(today);
        int due = ships.countDue(today);
        for (int i = 0; i < due && calm; i++) {
            int cell = ships.cellOf(i);
            log.keep(today, cell, sea.upperHeat(cell), null);
        }
        ships.dropFirst(due);
    }

    /** The HEAT and the SALT of one layer of all cells. */
    private static final class Layer {
        final int[] heat = new int[CELLS];
        final int[] salt = new int[CELLS];

        Layer(int heatAtFirst, int saltAtFirst) {
            Arrays.fill(heat, heatAtFirst);
            Arrays.fill(salt, saltAtFirst);
        }

        int weightAt(int cell) {
            return isCell(cell) ? 5 * salt[cell] - heat[cell] : 0;
        }

        void emptyAt(int cell) {
            if (isCell(cell)) {
                heat[cell] = 0;
                salt[cell] = 0;
            }
        }
    }

    /** The cells, with their layers, currents and suns. The layers of LAND hold 0, so sums need no look at it. */
    private static final class Sea {
        final Layer upper = new Layer(1000, 350);
        final Layer lower = new Layer(400, 360);
        final int[] currents = new int[CELLS];
        final int[] suns = new int[HEIGHT];
        int gift;
        private final boolean[] lands = new boolean[CELLS];
        private final int[] ahead = new int[CELLS];
        private int landCount;

        boolean isLand(int cell) {
            return isCell(cell) && lands[cell];
        }

        int upperHeat(int cell) {
            return isCell(cell) ? upper.heat[cell] : 0;
        }

        int makeLand(int cell) {
            if (isCell(cell) && !lands[cell]) {
                lands[cell] = true;
                landCount++;
                upper.emptyAt(cell);
                lower.emptyAt(cell);
            }
            return landCount;
        }

        /** The SEA cell beside a cell, in a direction numbered as currents are, or NONE. */
        int seaBeside(int cell, int direction) {
            if (!isCell(cell)) {
                return NONE;
            }
            int x = cell % WIDTH;
            int y = cell / WIDTH;
            switch (direction) {
                case 1: x++; break;
                case 2: x--; break;
                case 3: y++; break;
                case 4: y--; break;
                default: return NONE;
            }
            if (!isIndex(x, WIDTH) || !isIndex(y, HEIGHT)) {
                return NONE;
            }
            int there = WIDTH * y + x;
            return isCell(there) && !lands[there] ? there : NONE;
        }

        int leadsTo(int cell) {
            return isCell(cell) ? seaBeside(cell, currents[cell]) : NONE;
        }

        void flow() {
            carry(upper.heat);
            carry(upper.salt);
        }

        private void carry(int[] amounts) {
            int length = Math.min(amounts.length, CELLS);
            System.arraycopy(amounts, 0, ahead, 0, length);
            for (int cell = 0; cell < length; cell++) {
                int there = leadsTo(cell);
                if (isIndex(there, length)) {
                    int tenth = ahead[cell] / 10;
                    amounts[cell] -= tenth;
                    amounts[there] += tenth;
                }
            }
        }

        void shine() {
            for (int cell = 0; cell < CELLS; cell++) {
                if (!lands[cell]) {
                    int before = upper.heat[cell];
                    upper.heat[cell] = Math.max(0, before + suns[cell / WIDTH]);
                    gift += upper.heat[cell] - before;
                }
            }
        }

        void turnOver() {
            for (int cell = 0; cell < CELLS; cell++) {
                if (upper.weightAt(cell) > lower.weightAt(cell)) {
                    share(upper.heat, lower.heat, cell);
                    share(upper.salt, lower.salt, cell);
                }
            }
        }

        private static void share(int[] above, int[] below, int cell) {
            if (isIndex(cell, above.length) && isIndex(cell, below.length)) {
                int both = above[cell] + below[cell];
                above[cell] = both / 2;
                below[cell] = both - above[cell];
            }
        }
    }

    /** A float. The newest of its readings leads to the others. */
    private static final class Buoy {
        final int number;
        final int parks;
        final int bias;
        int cell;
        int daysLeft;
        int battery;
        int correction;
        int readingsKept;
        Reading latest;

        Buoy(int number, int cell, int parks, int battery, int bias) {
            this.number = number;
            this.cell = cell;
            this.parks = parks;
            this.daysLeft = parks;
            this.battery = battery;
            this.bias = bias;
        }
    }

    /** A reading, with its nearest neighbours of the same float; of a ship if it has no float. */
    private static final class Reading {
        final int day;
        final int cell;
        final int value;
        final Buoy buoy;
        int byHand = NONE;
        Reading before;
        Reading behind;

        Reading(int day, int cell, int value, Buoy buoy) {
            this.day = day;
            this.cell = cell;
            this.value = value;
            this.buoy = buoy;
        }

        int corrected() {
            return buoy == null ? value : value - buoy.correction;
        }

        int flagBy(int bound) {
            if (byHand != NONE) {
                return byHand;
            }
            return isSpike(bound) ? SPIKE : GOOD;
        }

        private boolean isSpike(int bound) {
            if (before == null || behind == null) {
                return false;
            }
            int overBefore = corrected() - before.corrected();
            int overBehind = corrected() - behind.corrected();
            return overBefore > bound && overBehind > bound
                    || overBefore < -bound && overBehind < -bound;
        }

        int daysFrom(int otherDay) {
            return Math.abs(day - otherDay);
        }

        int weightIn(int mapCell) {
            int distance = Math.abs(cell % WIDTH - mapCell % WIDTH) + Math.abs(cell / WIDTH - mapCell / WIDTH);
            return Math.max(0, REACH - distance);
        }
    }

    /** The readings that are kept, and the maps that are made of them. */
    private static final class Log {
        final Reading[] kept = new Reading[MOST_READINGS];
        int count;
        int bound = FIRST_BOUND;

        void keep(int day, int cell, int value, Buoy buoy) {
            if (!isIndex(count, kept.length)) {
                return;
            }
            Reading reading = new Reading(day, cell, value, buoy);
            kept[count] = reading;
            count++;
            if (buoy != null) {
                chain(reading, buoy);
            }
        }

        private static void chain(Reading reading, Buoy buoy) {
            reading.before = buoy.latest;
            if (buoy.latest != null) {
                buoy.latest.behind = reading;
            }
            buoy.latest = reading;
            buoy.readingsKept++;
        }

        Reading nearestOfShip(Reading own) {
            Reading nearest = null;
            int least = DAYS_TO_COMPARE + 1;
            for (Reading reading : kept) {
                if (reading != null && reading.buoy == null && reading.cell == own.cell
                        && reading.daysFrom(own.day) < least) {
                    nearest = reading;
                    least = reading.daysFrom(own.day);
                }
            }
            return nearest;
        }

        int weightsWithout(Reading left, int cell, int day, int span) {
            int sum = 0;
            for (Reading reading : kept) {
                if (reading != left && isInSpan(reading, day, span)) {
                    sum += reading.weightIn(cell);
                }
            }
            return sum;
        }

        // long: a hundred values of some millions, each times 8, are beyond an int
        long weighedValuesWithout(Reading left, int cell, int day, int span) {
            long sum = 0;
            for (Reading reading : kept) {
                if (reading != left && isInSpan(reading, day, span)) {
                    sum += (long) reading.corrected() * reading.weightIn(cell);
                }
            }
            return sum;
        }

        private boolean isInSpan(Reading reading, int day, int span) {
            return reading != null && reading.daysFrom(day) <= span && reading.flagBy(bound) == GOOD;
        }
    }

    /** The stations to come and the storms. Stations stand in the order in which ships come to them. */
    private static final class Ships {
        int stationCount;
        private final int[] stations = new int[MOST_STATIONS];
        private final int[] stormFrom = new int[MOST_STORMS];
        private final int[] stormTo = new int[MOST_STORMS];
        private int stormCount;

        // one number for both, so that rising numbers are rising days, and rising cells within a day
        private static int stationOf(int day, int cell) {
            return day * CELLS + cell;
        }

        private static int dayOf(int station) {
            return station / CELLS;
        }

        int cellOf(int place) {
            return isIndex(place, stations.length) ? stations[place] % CELLS : 0;
        }

        boolean hasStation(int day, int cell) {
            int asked = stationOf(day, cell);
            for (int i = 0; i < stationCount && i < stations.length; i++) {
                if (stations[i] == asked) {
                    return true;
                }
            }
            return false;
        }

        boolean hasStationIn(int cell) {
            for (int i = 0; i < stationCount && i < stations.length; i++) {
                if (cellOf(i) == cell) {
                    return true;
                }
            }
            return false;
        }

        boolean areAllStationsTold() {
            return !isIndex(stationCount, stations.length);
        }

        int tellStation(int day, int cell) {
            if (areAllStationsTold()) {
                return stationCount;
            }
            int told = stationOf(day, cell);
            int place = stationCount;
            for (; place > 0 && stations[place - 1] > told; place--) {
                stations[place] = stations[place - 1];
            }
            stations[place] = told;
            stationCount++;
            return stationCount;
        }

        int countDue(int today) {
            int due = 0;
            while (due < stationCount && due < stations.length && dayOf(stations[due]) <= today) {
                due++;
            }
            return due;
        }

        void dropFirst(int dropped) {
            if (dropped <= 0 || dropped > stationCount || stationCount > stations.length) {
                return;
            }
            stationCount -= dropped;
            System.arraycopy(stations, dropped, stations, 0, stationCount);
        }

        boolean areAllStormsTold() {
            return !isIndex(stormCount, MOST_STORMS);
        }

        void tellStorm(int from, int to) {
            if (!areAllStormsTold()) {
                stormFrom[stormCount] = from;
                stormTo[stormCount] = to;
                stormCount++;
            }
        }

        boolean hasStorm(int day) {
            for (int i = 0; i < stormCount && i < MOST_STORMS; i++) {
                if (stormFrom[i] <= day && day <= stormTo[i]) {
                    return true;
                }
            }
            return false;
        }

        int calmStations(int from, int to) {
            int calm = 0;
            for (int i = 0; i < stationCount && i < stations.length; i++) {
                int day = dayOf(stations[i]);
                if (from <= day && day <= to && !hasStorm(day)) {
                    calm++;
                }
            }
            return calm;
        }
    }

    /** A search: the chances in all cells. */
    private static final class Search {
        final int beginning;
        final int[] chances = new int[CELLS];
        // made once for all days and plans, as each new row would take room of its own
        private final int[] copy = new int[CELLS];

        Search(int beginning) {
            this.beginning = beginning;
            if (isCell(beginning)) {
                chances[beginning] = ALL_CHANCES;
            }
        }

        void goOn(Sea sea) {
            System.arraycopy(chances, 0, copy, 0, CELLS);
            for (int cell = 0; cell < CELLS; cell++) {
                int ahead = copy[cell];
                for (int direction = 1; direction <= DIRECTIONS; direction++) {
                    give(cell, sea.seaBeside(cell, direction), ahead / 10);
                }
                give(cell, sea.leadsTo(cell), 4 * ahead / 10);
            }
        }

        private void give(int cell, int there, int given) {
            if (isCell(cell) && isCell(there)) {
                chances[cell] -= given;
                chances[there] += given;
            }
        }

        int tryLegs(int legs, int hundredths) {
            System.arraycopy(chances, 0, copy, 0, CELLS);
            int sum = 0;
            for (int i = 0; i < legs; i++) {
                sum += lookAt(copy, bestOf(copy), hundredths);
            }
            return sum;
        }

        static int lookAt(int[] row, int cell, int hundredths) {
            if (!isIndex(cell, row.length)) {
                return 0;
            }
            int less = row[cell] * hundredths / 100;
            row[cell] -= less;
            return less;
        }

        static int bestOf(int[] row) {
            int best = 0;
            for (int cell = 1; cell < row.length; cell++) {
                if (row[cell] > row[best]) {
                    best = cell;
                }
            }
            return best;
        }
    }

    /** A part of the tides. */
    private static final class Part {
        final int period;
        final int height;
        final int phase;

        Part(int period, int height, int phase) {
            this.period = period;
            this.height = height;
            this.phase = phase;
        }

        int heightAt(int time) {
            if (period <= 0) {
                return 0;
            }
            int k = (time + phase) % period;
            return height * (2 * Math.abs(2 * k - period) - period) / period;
        }
    }
}

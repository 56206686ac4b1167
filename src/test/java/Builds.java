/** What is done with an object ahead of the call that a test looks at. */
final class Builds {
    private Builds() {
    }

    static void nothing(GyreWatch x) {
    }

    static void oneDay(GyreWatch x) {
        x.pass(1);
    }

    static void to(GyreWatch x, int day) {
        while (x.day() < day) {
            x.pass(Math.min(50, day - x.day()));
        }
    }

    static void to950(GyreWatch x) {
        to(x, 950);
    }

    static void to1000(GyreWatch x) {
        to(x, 1000);
    }

    static void allLand(GyreWatch x) {
        for (int cell = 0; cell < 60; cell++) {
            x.land(cell);
        }
    }

    /** Its first reading is one of the day 2. */
    static void oneFloat(GyreWatch x) {
        x.lay(5, 2, 3, 1);
    }

    static void eightFloats(GyreWatch x) {
        for (int i = 0; i < 8; i++) {
            x.lay(i, 1, 1, 0);
        }
    }

    static void eightLongFloats(GyreWatch x) {
        for (int i = 0; i < 8; i++) {
            x.lay(i, 1, 100, 0);
        }
    }

    /** The reading 0, of the day 1, the cell 5 and the value 1003. */
    static void oneReading(GyreWatch x) {
        x.lay(5, 1, 1, 3);
        x.pass(1);
    }

    /** The reading 100 comes in the midst of the day 13. */
    static void hundredReadings(GyreWatch x) {
        eightLongFloats(x);
        x.pass(13);
    }

    static void thirtyStations(GyreWatch x) {
        for (int i = 0; i < 30; i++) {
            x.station(5 + i / 15, 2 * (i % 15));
        }
    }

    /** Ten on each of three days. */
    static void thirtyStationsFrom(GyreWatch x, int day) {
        for (int i = 0; i < 30; i++) {
            x.station(day + i / 10, i);
        }
    }

    static void twentyStorms(GyreWatch x) {
        for (int i = 0; i < 20; i++) {
            x.storm(1, 1);
        }
    }

    static void oneSearch(GyreWatch x) {
        x.search(0);
    }

    static void fourSearches(GyreWatch x) {
        for (int i = 0; i < 4; i++) {
            x.search(i);
        }
    }

    static void sixParts(GyreWatch x) {
        for (int i = 0; i < 6; i++) {
            x.part(12, 10 + i, i);
        }
    }

    /** Something of everything, on the day 2, with a correction, a flag told by hand and stations to come. */
    static void busy(GyreWatch x) {
        x.land(44);
        x.current(0, 1);
        x.current(1, 3);
        x.sun(0, 50);
        x.sun(4, -50);
        x.lay(0, 1, 9, 5);
        x.lay(1, 2, 2, -5);
        x.station(1, 1);
        x.station(4, 11);
        x.station(5, 12);
        x.storm(4, 4);
        x.search(0);
        x.part(12, 50, 3);
        x.pass(2);
        x.calibrate(0);
        x.flag(0, GyreWatch.BAD);
        x.bound(30);
        x.leg(0, 1, 20);
    }

    static void busyAt990(GyreWatch x) {
        busy(x);
        to(x, 990);
    }

    /** The readings 0, 1, .. of a float in the cell 5, each more than the one ahead of it by so much. */
    static GyreWatch readingsBy(int bound, int... more) {
        GyreWatch x = new GyreWatch();
        x.bound(bound);
        x.lay(5, 1, 100, 0);
        for (int sun : more) {
            x.sun(0, sun);
            x.pass(1);
        }
        return x;
    }

    /** The UPPER layer of the cell 0 has given until 9 HEAT and 9 SALT are left, of which a tenth is 0. */
    static GyreWatch drained() {
        GyreWatch x = new GyreWatch();
        x.current(0, 1);
        to(x, 100);
        x.current(0, 0);
        return x;
    }
}

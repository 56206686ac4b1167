/** Promises 22 to 24: maps, and readings left out of them. */
public final class MapTest {
    private static final Check CHECK = new Check("MapTest");

    private MapTest() {
    }

    public static void main(String[] args) {
        promise22();
        promise22Spans();
        promise22Flags();
        promise22Below0();
        promise22Refused();
        promise23();
        promise23Refused();
        promise24();
        promise24FlagsAreAsWithIt();
        promise24Refused();
        CHECK.end();
    }

    /** Readings of the day 1: 1010 in the cell 0, 980 in 33. */
    private static void twoReadings(GyreWatch x) {
        x.sun(0, 10);
        x.sun(3, -20);
        x.station(1, 0);
        x.station(1, 33);
        x.pass(1);
    }

    private static void promise22() {
        GyreWatch x = new GyreWatch();
        twoReadings(x);
        CHECK.due("22 8 and 2", (8 * 1010 + 2 * 980) / 10, x.mean(0, 1, 0));
        CHECK.due("22 2 and 8", (2 * 1010 + 8 * 980) / 10, x.mean(33, 1, 0));
        CHECK.due("22 7 and 3", (7 * 1010 + 3 * 980) / 10, x.mean(1, 1, 0));
        CHECK.due("22 7 and 3, by y", (7 * 1010 + 3 * 980) / 10, x.mean(10, 1, 0));
        CHECK.due("22 rounded", (3 * 1010 + 7 * 980) / 10, x.mean(32, 1, 0));
        CHECK.due("22 1 and 5", (1 * 1010 + 5 * 980) / 6, x.mean(25, 1, 0));
        CHECK.due("22 0 and 2", 980, x.mean(39, 1, 0));
        CHECK.due("22 0 and 4", 980, x.mean(35, 1, 0));
        CHECK.due("22 6 and 4", (6 * 1010 + 4 * 980) / 10, x.mean(20, 1, 0));
        GyreWatch one = new GyreWatch();
        one.land(58);
        one.station(1, 59);
        one.pass(1);
        CHECK.due("22 weight 1", 1000, one.mean(52, 1, 0));
        CHECK.state("22 weight 0", y -> {
            y.station(1, 59);
            y.pass(1);
        }, y -> y.mean(51, 1, 0));
        CHECK.state("22 not round the edge", y -> {
            y.station(1, 10);
            y.pass(1);
        }, y -> y.mean(9, 1, 0));
    }

    private static void promise22Spans() {
        GyreWatch x = new GyreWatch();
        x.sun(0, 10);
        for (int day = 1; day <= 5; day += 2) {
            x.station(day, 5);
        }
        x.pass(5);
        CHECK.due("22 on the day", 1030, x.mean(5, 3, 0));
        CHECK.due("22 a day ahead, a day behind", (1010 + 1030) / 2, x.mean(5, 2, 1));
        CHECK.due("22 two days", (1010 + 1030 + 1050) / 3, x.mean(5, 3, 2));
        CHECK.due("22 one day", 1030, x.mean(5, 3, 1));
        CHECK.due("22 later than all", 1050, x.mean(5, 1000, 995));
        CHECK.due("22 the widest", 1030, x.mean(5, 0, 1000));
        CHECK.due("22 from the day 0", 1010, x.mean(5, 0, 1));
        x.pass(3);
        CHECK.due("22 a day that was", 1030, x.mean(5, 3, 0));
    }

    private static void promise22Flags() {
        GyreWatch x = new GyreWatch();
        x.bound(20);
        x.lay(5, 1, 3, 10);
        x.pass(1);
        x.sun(0, 50);
        x.pass(1);
        x.sun(0, -50);
        x.station(3, 5);
        x.pass(1);
        CHECK.due("22 without the SPIKE", (1010 + 1010 + 1000) / 3, x.mean(5, 2, 9));
        x.bound(60);
        CHECK.due("22 with it", (1010 + 1060 + 1010 + 1000) / 4, x.mean(5, 2, 9));
        x.flag(1, GyreWatch.BAD);
        CHECK.due("22 without the BAD", (1010 + 1010 + 1000) / 3, x.mean(5, 2, 9));
        x.flag(1, GyreWatch.GOOD);
        CHECK.due("22 GOOD by hand", (1010 + 1060 + 1010 + 1000) / 4, x.mean(5, 2, 9));
        CHECK.due("22 the correction", 10, x.calibrate(0));
        CHECK.due("22 CORRECTED", (1000 + 1050 + 1000 + 1000) / 4, x.mean(5, 2, 9));
    }

    private static void promise22Below0() {
        GyreWatch x = new GyreWatch();
        x.sun(0, -50);
        x.pass(50);
        x.lay(5, 1, 1, -50);
        x.lay(6, 1, 1, -47);
        x.pass(1);
        CHECK.due("22 below 0", -50, x.ofReading(0, 2));
        CHECK.due("22 rounded towards 0", -48, x.mean(5, 51, 0));
    }

    private static void promise22Refused() {
        CHECK.index("22 below", Builds::oneReading, x -> x.mean(-1, 1, 0));
        CHECK.index("22 above", Builds::oneReading, x -> x.mean(60, 1, 0));
        CHECK.index("22 first of two", Builds::oneReading, x -> x.mean(60, -1, 0));
        CHECK.argument("22 day below", Builds::oneReading, x -> x.mean(5, -1, 5));
        CHECK.argument("22 day above", Builds::oneReading, x -> x.mean(5, 1001, 1000));
        CHECK.argument("22 span below", Builds::oneReading, x -> x.mean(5, 1, -1));
        CHECK.argument("22 span above", Builds::oneReading, x -> x.mean(5, 1, 1001));
        CHECK.argument("22 first of two, LAND", x -> x.land(5), x -> x.mean(5, 1, 1001));
        CHECK.state("22 LAND", x -> {
            x.land(6);
            Builds.oneReading(x);
        }, x -> x.mean(6, 1, 0));
        CHECK.state("22 no reading", Builds::nothing, x -> x.mean(5, 1, 1000));
        CHECK.state("22 no such day", Builds::oneReading, x -> x.mean(5, 3, 1));
        CHECK.state("22 none GOOD", x -> {
            Builds.oneReading(x);
            x.flag(0, GyreWatch.SPIKE);
        }, x -> x.mean(5, 1, 1));
        CHECK.state("22 all too far", Builds::oneReading, x -> x.mean(49, 1, 1));
    }

    private static void promise23() {
        GyreWatch x = new GyreWatch();
        CHECK.due("23 without readings", 1000, x.error(5, 0, 1000));
        twoReadings(x);
        CHECK.due("23 8 and 2", 1000 / 11, x.error(0, 1, 0));
        CHECK.due("23 1 and 5", 1000 / 7, x.error(25, 1, 0));
        CHECK.due("23 of another day", 1000, x.error(0, 3, 1));
        CHECK.due("23 by its span", 1000 / 11, x.error(0, 3, 2));
        x.flag(0, GyreWatch.BAD);
        CHECK.due("23 without the BAD", 1000 / 3, x.error(0, 1, 0));
        x.flag(1, GyreWatch.SPIKE);
        CHECK.due("23 none GOOD", 1000, x.error(0, 1, 0));
        GyreWatch one = new GyreWatch();
        one.station(1, 59);
        one.pass(1);
        CHECK.due("23 weight 1", 500, one.error(52, 1, 0));
        CHECK.due("23 weight 1, by x and y", 500, one.error(25, 1, 0));
        CHECK.due("23 weight 2, by x and y", 333, one.error(26, 1, 0));
        CHECK.due("23 weight 0", 1000, one.error(51, 1, 0));
        CHECK.due("23 weight 3, below", 250, one.error(9, 1, 0));
    }

    private static void promise23Refused() {
        CHECK.index("23 below", Builds::oneReading, x -> x.error(-1, 1, 0));
        CHECK.index("23 above", Builds::oneReading, x -> x.error(60, 1, 0));
        CHECK.index("23 first of two", Builds::oneReading, x -> x.error(60, 1, -1));
        CHECK.argument("23 day below", Builds::oneReading, x -> x.error(5, -1, 5));
        CHECK.argument("23 day above", Builds::oneReading, x -> x.error(5, 1001, 5));
        CHECK.argument("23 span below", Builds::oneReading, x -> x.error(5, 1, -1));
        CHECK.argument("23 span above", Builds::oneReading, x -> x.error(5, 1, 1001));
        CHECK.argument("23 first of two, LAND", x -> x.land(5), x -> x.error(5, -1, 0));
        CHECK.state("23 LAND", x -> x.land(5), x -> x.error(5, 0, 0));
    }

    private static void promise24() {
        GyreWatch x = new GyreWatch();
        twoReadings(x);
        CHECK.due("24 by the other", 1010 - 980, x.residual(0, 0));
        CHECK.due("24 the other", 980 - 1010, x.residual(1, 0));
        x.flag(0, GyreWatch.BAD);
        CHECK.due("24 whatever its flag", 1010 - 980, x.residual(0, 1000));
        CHECK.state("24 the other is BAD", y -> {
            twoReadings(y);
            y.flag(0, GyreWatch.BAD);
        }, y -> y.residual(1, 1000));
        GyreWatch later = new GyreWatch();
        later.sun(0, 10);
        later.station(1, 5);
        later.station(3, 5);
        later.station(3, 6);
        later.pass(3);
        CHECK.due("24 of its day", 0, later.residual(2, 1));
        CHECK.due("24 by its span, 8 and 7", 1030 - (8 * 1010 + 7 * 1030) / 15, later.residual(1, 2));
        GyreWatch calibrated = new GyreWatch();
        calibrated.lay(5, 1, 1, 9);
        calibrated.station(1, 5);
        calibrated.pass(1);
        CHECK.due("24 its BIAS", 9, calibrated.residual(0, 0));
        CHECK.due("24 the ship's", -9, calibrated.residual(1, 0));
        calibrated.calibrate(0);
        CHECK.due("24 CORRECTED", 0, calibrated.residual(0, 0));
        CHECK.due("24 the ship's, CORRECTED", 0, calibrated.residual(1, 0));
    }

    /** The SPIKE stays one, though the reading behind it is left out. */
    private static void promise24FlagsAreAsWithIt() {
        GyreWatch x = new GyreWatch();
        x.bound(20);
        x.lay(5, 1, 3, 0);
        x.pass(1);
        x.sun(0, 50);
        x.pass(1);
        x.sun(0, -50);
        x.pass(1);
        CHECK.due("24 by the first alone", 0, x.residual(2, 9));
        CHECK.due("24 of the SPIKE", 50, x.residual(1, 9));
        CHECK.due("24 and it is back", GyreWatch.SPIKE, x.ofReading(1, 4));
    }

    private static void promise24Refused() {
        CHECK.index("24 no reading", Builds::nothing, x -> x.residual(0, 0));
        CHECK.index("24 below", Builds::oneReading, x -> x.residual(-1, 0));
        CHECK.index("24 above", Builds::oneReading, x -> x.residual(1, 0));
        CHECK.index("24 far above", Builds::oneReading, x -> x.residual(100, 0));
        CHECK.index("24 first of two", Builds::oneReading, x -> x.residual(1, -1));
        CHECK.argument("24 span below", Builds::oneReading, x -> x.residual(0, -1));
        CHECK.argument("24 span above", Builds::oneReading, x -> x.residual(0, 1001));
        CHECK.state("24 none but it", Builds::oneReading, x -> x.residual(0, 1000));
        CHECK.state("24 none by its span", x -> {
            x.station(1, 5);
            x.station(3, 5);
            x.pass(3);
        }, x -> x.residual(0, 1));
    }
}

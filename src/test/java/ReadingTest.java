/** Promises 10, 11, 20 and 21: readings and their flags. */
public final class ReadingTest {
    private static final Check CHECK = new Check("ReadingTest");

    private ReadingTest() {
    }

    public static void main(String[] args) {
        promise10();
        promise10Spikes();
        promise10NearestOfItsOwn();
        promise10Neighbours();
        promise10Refused();
        promise11();
        promise11Refused();
        promise20();
        promise21();
        promise21Refused();
        CHECK.end();
    }

    private static void promise10() {
        GyreWatch x = Builds.readingsBy(20, 0, 50, -50);
        CHECK.due("10 before: SPIKE by itself", GyreWatch.SPIKE, x.flag(1, GyreWatch.GOOD));
        CHECK.due("10 GOOD by hand", GyreWatch.GOOD, x.ofReading(1, 4));
        CHECK.due("10 before: GOOD by hand", GyreWatch.GOOD, x.flag(1, GyreWatch.BAD));
        CHECK.due("10 before: BAD", GyreWatch.BAD, x.flag(1, GyreWatch.NONE));
        CHECK.due("10 not by hand any more", GyreWatch.SPIKE, x.ofReading(1, 4));
        CHECK.due("10 before: GOOD by itself", GyreWatch.GOOD, x.flag(0, GyreWatch.SPIKE));
        CHECK.due("10 SPIKE by hand", GyreWatch.SPIKE, x.ofReading(0, 4));
        CHECK.due("10 the others are as they were", GyreWatch.GOOD, x.ofReading(2, 4));
        x.bound(1000);
        CHECK.due("10 by hand whatever the bound", GyreWatch.SPIKE, x.ofReading(0, 4));
    }

    private static void promise10Spikes() {
        CHECK.due("10 above both", GyreWatch.SPIKE, Builds.readingsBy(49, 0, 50, -50).ofReading(1, 4));
        CHECK.due("10 above both by the bound", GyreWatch.GOOD, Builds.readingsBy(50, 0, 50, -50).ofReading(1, 4));
        CHECK.due("10 below both", GyreWatch.SPIKE, Builds.readingsBy(49, 0, -50, 50).ofReading(1, 4));
        CHECK.due("10 below both by the bound", GyreWatch.GOOD, Builds.readingsBy(50, 0, -50, 50).ofReading(1, 4));
        CHECK.due("10 above the one behind alone", GyreWatch.GOOD, Builds.readingsBy(20, 0, 20, -50).ofReading(1, 4));
        CHECK.due("10 above the one ahead alone", GyreWatch.GOOD, Builds.readingsBy(20, 0, 50, -20).ofReading(1, 4));
        CHECK.due("10 below the one behind alone", GyreWatch.GOOD, Builds.readingsBy(20, 0, -20, 50).ofReading(1, 4));
        CHECK.due("10 below the one ahead alone", GyreWatch.GOOD, Builds.readingsBy(20, 0, -50, 20).ofReading(1, 4));
        CHECK.due("10 between", GyreWatch.GOOD, Builds.readingsBy(0, 0, 50, 50).ofReading(1, 4));
        CHECK.due("10 the same", GyreWatch.GOOD, Builds.readingsBy(0, 0, 0, 0).ofReading(1, 4));
        CHECK.due("10 bound 0", GyreWatch.SPIKE, Builds.readingsBy(0, 0, 1, -1).ofReading(1, 4));
        GyreWatch x = Builds.readingsBy(20, 0, 50);
        CHECK.due("10 none ahead", GyreWatch.GOOD, x.ofReading(0, 4));
        CHECK.due("10 none behind", GyreWatch.GOOD, x.ofReading(1, 4));
        x.sun(0, -50);
        x.pass(1);
        CHECK.due("10 one behind by now", GyreWatch.SPIKE, x.ofReading(1, 4));
        CHECK.due("10 none behind that", GyreWatch.GOOD, x.ofReading(2, 4));
    }

    /** Those of ships and other floats stand between, and are no neighbours; a ship's is never a SPIKE. */
    private static void promise10NearestOfItsOwn() {
        GyreWatch x = new GyreWatch();
        x.bound(40);
        x.lay(5, 1, 9, 0);
        x.lay(6, 1, 9, 45);
        x.station(1, 5);
        x.station(2, 5);
        x.station(3, 5);
        x.pass(1);
        x.sun(0, 50);
        x.pass(1);
        x.sun(0, -50);
        x.pass(1);
        int[] flags = {0, 0, 0, 1, 1, 0, 0, 0, 0};
        int[] floats = {0, 1, -1, 0, 1, -1, 0, 1, -1};
        for (int i = 0; i < flags.length; i++) {
            CHECK.due("10 of its own, flag " + i, flags[i], x.ofReading(i, 4));
            CHECK.due("10 of its own, float " + i, floats[i], x.ofReading(i, 5));
        }
        GyreWatch far = new GyreWatch();
        far.lay(5, 7, 9, 0);
        far.lay(50, 2, 9, 0);
        far.bound(300);
        far.sun(0, 50);
        far.pass(14);
        far.sun(0, -50);
        far.pass(7);
        int second = far.readings() - 1;
        while (far.ofReading(second, 0) != 14 || far.ofReading(second, 5) != 0) {
            second--;
        }
        CHECK.due("10 seven days apart", GyreWatch.SPIKE, far.ofReading(second, 4));
    }

    private static void promise10Neighbours() {
        GyreWatch x = Builds.readingsBy(20, 0, 50, -50, 50);
        CHECK.due("10 up", GyreWatch.SPIKE, x.ofReading(1, 4));
        CHECK.due("10 down", GyreWatch.SPIKE, x.ofReading(2, 4));
        x.flag(0, GyreWatch.BAD);
        x.flag(2, GyreWatch.BAD);
        CHECK.due("10 whatever the flags of its neighbours", GyreWatch.SPIKE, x.ofReading(1, 4));
        GyreWatch near = Builds.readingsBy(20, 0, 50, -10, -50);
        near.flag(1, GyreWatch.BAD);
        CHECK.due("10 the nearest, BAD or not", GyreWatch.GOOD, near.ofReading(2, 4));
        GyreWatch calibrated = new GyreWatch();
        calibrated.bound(49);
        calibrated.lay(5, 1, 9, 30);
        calibrated.station(1, 5);
        calibrated.pass(1);
        calibrated.sun(0, 50);
        calibrated.pass(1);
        calibrated.sun(0, -50);
        calibrated.pass(1);
        CHECK.due("10 the correction", 30, calibrated.calibrate(0));
        CHECK.due("10 all three are CORRECTED", GyreWatch.SPIKE, calibrated.ofReading(2, 4));
        CHECK.due("10 each by as much", GyreWatch.GOOD, calibrated.ofReading(3, 4));
    }

    private static void promise10Refused() {
        CHECK.index("10 no reading", Builds::nothing, x -> x.flag(0, 0));
        CHECK.index("10 below", Builds::oneReading, x -> x.flag(-1, 0));
        CHECK.index("10 above", Builds::oneReading, x -> x.flag(1, 0));
        CHECK.index("10 far above", Builds::oneReading, x -> x.flag(100, 0));
        CHECK.index("10 first of two", Builds::oneReading, x -> x.flag(1, 3));
        CHECK.argument("10 flag below", Builds::oneReading, x -> x.flag(0, -2));
        CHECK.argument("10 flag above", Builds::oneReading, x -> x.flag(0, 3));
    }

    private static void promise11() {
        GyreWatch x = new GyreWatch();
        CHECK.due("11 at first", 100, x.bound(0));
        CHECK.due("11 least", 0, x.bound(1000));
        CHECK.due("11 greatest", 1000, x.bound(49));
        x.lay(5, 1, 100, 0);
        x.pass(1);
        x.sun(0, 50);
        x.pass(1);
        x.sun(0, -50);
        x.pass(1);
        CHECK.due("11 more than 49", GyreWatch.SPIKE, x.ofReading(1, 4));
        CHECK.due("11 it was", 49, x.bound(50));
        CHECK.due("11 not more than 50", GyreWatch.GOOD, x.ofReading(1, 4));
        CHECK.due("11 it was 50", 50, x.bound(50));
        CHECK.due("11 the first is 100: by as much", GyreWatch.GOOD, twoDays(50).ofReading(1, 4));
        CHECK.due("11 the first is 100: by more", GyreWatch.SPIKE, threeDays().ofReading(1, 4));
    }

    private static GyreWatch twoDays(int sun) {
        GyreWatch x = new GyreWatch();
        x.lay(5, 2, 100, 0);
        x.pass(2);
        x.sun(0, sun);
        x.pass(2);
        x.sun(0, -sun);
        x.pass(2);
        return x;
    }

    private static GyreWatch threeDays() {
        GyreWatch x = new GyreWatch();
        x.lay(5, 3, 100, 0);
        x.pass(3);
        x.sun(0, 34);
        x.pass(3);
        x.sun(0, -34);
        x.pass(3);
        return x;
    }

    private static void promise11Refused() {
        CHECK.argument("11 below", Builds::oneReading, x -> x.bound(-1));
        CHECK.argument("11 above", Builds::oneReading, x -> x.bound(1001));
    }

    private static void promise20() {
        GyreWatch x = new GyreWatch();
        CHECK.due("20 at first", 0, x.readings());
        x.lay(5, 1, 2, 0);
        x.station(1, 5);
        x.pass(1);
        CHECK.due("20 two", 2, x.readings());
        x.flag(0, GyreWatch.BAD);
        CHECK.due("20 BAD ones too", 2, x.readings());
        x.pass(5);
        CHECK.due("20 three", 3, x.readings());
        GyreWatch full = new GyreWatch();
        for (int i = 0; i < 8; i++) {
            full.lay(i, 1, 100, 0);
        }
        full.pass(12);
        CHECK.due("20 96", 96, full.readings());
        full.pass(1);
        CHECK.due("20 100", 100, full.readings());
        full.pass(1);
        CHECK.due("20 no more", 100, full.readings());
        CHECK.due("20 four of the last day", 13, full.ofReading(99, 0));
        CHECK.due("20 by the fourth float", 3, full.ofReading(99, 5));
        CHECK.due("20 of the fourth float", 13, full.ofFloat(3, 4));
        CHECK.due("20 of the fifth float", 12, full.ofFloat(4, 4));
    }

    private static void promise21() {
        GyreWatch x = new GyreWatch();
        x.lay(9, 1, 1, 0);
        x.lay(5, 2, 1, -7);
        x.station(2, 5);
        x.sun(0, 3);
        x.pass(2);
        int[][] due = {{1, 9, 1003, 1003, 0, 0}, {2, 5, 999, 999, 0, 1}, {2, 5, 1006, 1006, 0, -1}};
        for (int i = 0; i < due.length; i++) {
            for (int what = 0; what < 6; what++) {
                CHECK.due("21 reading " + i + " what " + what, due[i][what], x.ofReading(i, what));
            }
        }
        x.calibrate(1);
        CHECK.due("21 the value", 999, x.ofReading(1, 2));
        CHECK.due("21 the CORRECTED value", 1006, x.ofReading(1, 3));
        CHECK.due("21 not of the ship", 1006, x.ofReading(2, 3));
        CHECK.due("21 not of the other float", 1003, x.ofReading(0, 3));
        x.flag(2, GyreWatch.BAD);
        CHECK.due("21 BAD", GyreWatch.BAD, x.ofReading(2, 4));
        x.pass(5);
        CHECK.due("21 the value is of that day", 1006, x.ofReading(2, 2));
    }

    private static void promise21Refused() {
        CHECK.index("21 no reading", Builds::nothing, x -> x.ofReading(0, 0));
        CHECK.index("21 below", Builds::oneReading, x -> x.ofReading(-1, 0));
        CHECK.index("21 above", Builds::oneReading, x -> x.ofReading(1, 0));
        CHECK.index("21 far above", Builds::oneReading, x -> x.ofReading(100, 0));
        CHECK.index("21 first of two", Builds::oneReading, x -> x.ofReading(1, 6));
        CHECK.argument("21 what below", Builds::oneReading, x -> x.ofReading(0, -1));
        CHECK.argument("21 what above", Builds::oneReading, x -> x.ofReading(0, 6));
    }
}

/** Promises 6, 9 and 18: floats. */
public final class FloatTest {
    private static final Check CHECK = new Check("FloatTest");

    private FloatTest() {
    }

    public static void main(String[] args) {
        promise6();
        promise6ParksAndRises();
        promise6Drifts();
        promise6Dies();
        promise6ByRisingNumbers();
        promise6BeyondTheKept();
        promise6Refused();
        promise9();
        promise9LatestFirst();
        promise9DaysApart();
        promise9OtherCell();
        promise9LeastApart();
        promise9WhateverFlags();
        promise9Refused();
        promise18();
        CHECK.end();
    }

    private static void promise6() {
        GyreWatch x = new GyreWatch();
        CHECK.due("6 first", 0, x.lay(0, 20, 100, 50));
        CHECK.due("6 second", 1, x.lay(59, 1, 1, -50));
        x.pass(1);
        CHECK.due("6 later", 2, x.lay(59, 3, 4, 0));
        for (int i = 3; i < 8; i++) {
            CHECK.due("6 number " + i, i, x.lay(i, 1, 1, 0));
        }
        CHECK.due("6 days left", 19, x.ofFloat(0, 1));
        CHECK.due("6 days left of a later one", 3, x.ofFloat(2, 1));
        CHECK.due("6 its battery", 4, x.ofFloat(2, 2));
        CHECK.due("6 its value", 950, x.ofReading(0, 2));
    }

    private static void promise6ParksAndRises() {
        GyreWatch x = new GyreWatch();
        Builds.oneFloat(x);
        x.pass(1);
        CHECK.due("6 parks", 1, x.ofFloat(0, 1));
        CHECK.due("6 does not read", 0, x.readings());
        CHECK.due("6 full battery", 3, x.ofFloat(0, 2));
        x.pass(1);
        CHECK.due("6 parks again", 2, x.ofFloat(0, 1));
        CHECK.due("6 reads", 1, x.readings());
        CHECK.due("6 reads on the day", 2, x.ofReading(0, 0));
        CHECK.due("6 reads with its BIAS", 1001, x.ofReading(0, 2));
        CHECK.due("6 battery less", 2, x.ofFloat(0, 2));
        x.pass(2);
        CHECK.due("6 reads again", 4, x.ofReading(1, 0));
    }

    private static void promise6Drifts() {
        GyreWatch x = new GyreWatch();
        x.land(18);
        x.current(5, 1);
        x.current(6, 3);
        x.current(16, 1);
        x.current(17, 1);
        x.lay(5, 1, 9, 0);
        int[] cells = {6, 16, 17, 17, 17};
        for (int i = 0; i < cells.length; i++) {
            CHECK.due("6 where ahead of " + i, i == 0 ? 5 : cells[i - 1], x.ofFloat(0, 0));
            x.pass(1);
            CHECK.due("6 where " + i, cells[i], x.ofFloat(0, 0));
            CHECK.due("6 reads where " + i, cells[i], x.ofReading(i, 1));
            CHECK.due("6 reads there " + i, x.ofLayer(cells[i], GyreWatch.UPPER, 0), x.ofReading(i, 2));
        }
        GyreWatch edge = new GyreWatch();
        edge.current(0, 4);
        edge.current(59, 3);
        edge.lay(0, 1, 2, 0);
        edge.lay(59, 3, 2, 0);
        edge.current(59, 2);
        edge.pass(2);
        CHECK.due("6 not beyond the sea", 0, edge.ofFloat(0, 0));
        CHECK.due("6 not while it parks", 59, edge.ofFloat(1, 0));
        edge.pass(1);
        CHECK.due("6 as it rises", 58, edge.ofFloat(1, 0));
    }

    private static void promise6Dies() {
        GyreWatch x = new GyreWatch();
        x.lay(5, 2, 2, 0);
        x.pass(4);
        CHECK.due("6 DEAD has no days left", 0, x.ofFloat(0, 1));
        CHECK.due("6 DEAD has no battery", 0, x.ofFloat(0, 2));
        x.current(5, 1);
        x.pass(9);
        CHECK.due("6 DEAD reads no more", 2, x.readings());
        CHECK.due("6 DEAD stays", 5, x.ofFloat(0, 0));
        CHECK.due("6 DEAD for good", 0, x.ofFloat(0, 1));
        CHECK.due("6 DEAD battery not less", 0, x.ofFloat(0, 2));
    }

    private static void promise6ByRisingNumbers() {
        GyreWatch x = new GyreWatch();
        x.lay(59, 1, 9, 1);
        x.lay(0, 1, 9, 2);
        x.lay(30, 1, 9, 3);
        x.station(1, 2);
        x.pass(1);
        int[] floats = {0, 1, 2, GyreWatch.NONE};
        for (int i = 0; i < floats.length; i++) {
            CHECK.due("6 reads as number " + i, floats[i], x.ofReading(i, 5));
        }
    }

    private static void promise6BeyondTheKept() {
        GyreWatch x = new GyreWatch();
        x.lay(0, 1, 100, 0);
        x.lay(1, 1, 100, 0);
        x.current(0, 1);
        x.station(51, 30);
        x.pass(49);
        CHECK.due("6 98 are kept", 98, x.readings());
        x.pass(1);
        CHECK.due("6 100 are kept", 100, x.readings());
        x.pass(1);
        CHECK.due("6 no more are kept", 100, x.readings());
        CHECK.due("6 a station read in vain", 0, x.stations());
        CHECK.due("6 battery less all the same", 49, x.ofFloat(0, 2));
        CHECK.due("6 readings of it that are kept", 50, x.ofFloat(0, 4));
        CHECK.due("6 the last kept", 50, x.ofReading(99, 0));
        x.current(1, 3);
        x.pass(48);
        CHECK.due("6 not yet DEAD", 1, x.ofFloat(1, 1));
        CHECK.due("6 it drifts all the same", 11, x.ofFloat(1, 0));
        x.pass(1);
        CHECK.due("6 DEAD without a reading kept", 0, x.ofFloat(1, 1));
        CHECK.index("6 reading 100", Builds::hundredReadings, y -> y.ofReading(100, 0));
    }

    private static void promise6Refused() {
        CHECK.index("6 below", Builds::nothing, x -> x.lay(-1, 1, 1, 0));
        CHECK.index("6 above", Builds::nothing, x -> x.lay(60, 1, 1, 0));
        CHECK.index("6 first of three", Builds::eightFloats, x -> x.lay(60, 0, 1, 0));
        CHECK.argument("6 parks below", Builds::nothing, x -> x.lay(0, 0, 1, 0));
        CHECK.argument("6 parks above", Builds::nothing, x -> x.lay(0, 21, 1, 0));
        CHECK.argument("6 battery below", Builds::nothing, x -> x.lay(0, 1, 0, 0));
        CHECK.argument("6 battery above", Builds::nothing, x -> x.lay(0, 1, 101, 0));
        CHECK.argument("6 bias below", Builds::nothing, x -> x.lay(0, 1, 1, -51));
        CHECK.argument("6 bias above", Builds::nothing, x -> x.lay(0, 1, 1, 51));
        CHECK.argument("6 first of two", Builds::eightFloats, x -> x.lay(0, 1, 1, 51));
        CHECK.argument("6 on LAND too", x -> x.land(0), x -> x.lay(0, 1, 1, 51));
        CHECK.state("6 LAND", x -> x.land(0), x -> x.lay(0, 1, 1, 0));
        CHECK.state("6 ninth", Builds::eightFloats, x -> x.lay(0, 1, 1, 0));
        CHECK.state("6 ninth, all DEAD", x -> {
            Builds.eightFloats(x);
            x.pass(1);
        }, x -> x.lay(0, 1, 1, 0));
    }

    private static void promise9() {
        GyreWatch x = new GyreWatch();
        x.lay(5, 1, 9, 7);
        x.lay(5, 1, 9, -9);
        x.station(1, 5);
        x.pass(1);
        CHECK.due("9 at first", 0, x.ofFloat(0, 3));
        CHECK.due("9 its BIAS", 7, x.calibrate(0));
        CHECK.due("9 from then on", 7, x.ofFloat(0, 3));
        CHECK.due("9 not the other", 0, x.ofFloat(1, 3));
        CHECK.due("9 the other", -9, x.calibrate(1));
        CHECK.due("9 again", 7, x.calibrate(0));
        CHECK.due("9 CORRECTED", 1000, x.ofReading(0, 3));
        CHECK.due("9 the value is as it was", 1007, x.ofReading(0, 2));
        x.sun(0, 50);
        x.pass(1);
        CHECK.due("9 a later reading is CORRECTED too", 1050, x.ofReading(3, 3));
        CHECK.due("9 the correction then", 57, x.calibrate(0));
        CHECK.due("9 as that is now", 950, x.ofReading(0, 3));
    }

    private static void promise9LatestFirst() {
        GyreWatch x = new GyreWatch();
        x.sun(0, 10);
        x.lay(5, 1, 9, 0);
        x.station(1, 5);
        x.pass(2);
        CHECK.due("9 the latest, a day apart", 1020 - 1010, x.calibrate(0));
        x.pass(1);
        CHECK.due("9 the latest, two days apart", 1030 - 1010, x.calibrate(0));
        x.pass(1);
        CHECK.due("9 not the latest, three days apart", 1030 - 1010, x.calibrate(0));
        x.station(5, 5);
        x.pass(1);
        CHECK.due("9 the latest again", 0, x.calibrate(0));
    }

    private static void promise9DaysApart() {
        GyreWatch x = new GyreWatch();
        x.sun(0, 10);
        x.lay(5, 1, 1, 3);
        x.station(3, 5);
        x.pass(3);
        CHECK.due("9 a ship two days later", 1013 - 1030, x.calibrate(0));
        CHECK.state("9 a ship three days later", y -> {
            y.lay(5, 1, 1, 3);
            y.station(4, 5);
            y.pass(4);
        }, y -> y.calibrate(0));
        CHECK.state("9 a ship three days ahead", y -> {
            y.lay(5, 4, 1, 3);
            y.station(1, 5);
            y.pass(4);
        }, y -> y.calibrate(0));
    }

    private static void promise9OtherCell() {
        GyreWatch x = new GyreWatch();
        x.current(5, 1);
        x.lay(5, 1, 1, 5);
        x.station(1, 5);
        x.station(1, 15);
        x.station(2, 6);
        x.pass(2);
        CHECK.due("9 in its cell then", 1105 - 1190, x.calibrate(0));
        CHECK.state("9 in another cell", y -> {
            y.lay(5, 1, 1, 5);
            y.station(1, 6);
            y.pass(1);
        }, y -> y.calibrate(0));
        CHECK.state("9 by another float", y -> {
            y.lay(5, 1, 1, 5);
            y.lay(5, 1, 1, 6);
            y.pass(1);
        }, y -> y.calibrate(0));
    }

    private static void promise9LeastApart() {
        GyreWatch x = new GyreWatch();
        x.sun(0, 10);
        x.lay(5, 3, 1, 0);
        x.station(1, 5);
        x.station(2, 5);
        x.station(4, 5);
        x.pass(3);
        CHECK.due("9 one day apart", 1030 - 1020, x.calibrate(0));
        x.pass(1);
        CHECK.due("9 of two the lowest number", 1030 - 1020, x.calibrate(0));
        GyreWatch later = new GyreWatch();
        later.sun(0, 10);
        later.lay(5, 3, 1, 0);
        later.station(1, 5);
        later.station(4, 5);
        later.pass(4);
        CHECK.due("9 the later is nearer", 1030 - 1040, later.calibrate(0));
        GyreWatch same = new GyreWatch();
        same.sun(0, 10);
        same.lay(5, 2, 1, 0);
        same.station(2, 5);
        same.station(3, 5);
        same.pass(3);
        CHECK.due("9 the same day", 0, same.calibrate(0));
    }

    private static void promise9WhateverFlags() {
        GyreWatch x = new GyreWatch();
        x.lay(5, 1, 2, 5);
        x.station(1, 5);
        x.sun(0, 10);
        x.pass(2);
        x.flag(0, GyreWatch.GOOD);
        x.flag(1, GyreWatch.BAD);
        x.flag(2, GyreWatch.SPIKE);
        CHECK.due("9 whatever flags", 1025 - 1010, x.calibrate(0));
    }

    private static void promise9Refused() {
        CHECK.index("9 no float", Builds::nothing, x -> x.calibrate(0));
        CHECK.index("9 below", Builds::oneFloat, x -> x.calibrate(-1));
        CHECK.index("9 above", Builds::oneFloat, x -> x.calibrate(1));
        CHECK.index("9 far above", Builds::eightFloats, x -> x.calibrate(8));
        CHECK.state("9 without a reading", Builds::oneFloat, x -> x.calibrate(0));
        CHECK.state("9 without a ship", x -> {
            Builds.oneFloat(x);
            x.pass(2);
        }, x -> x.calibrate(0));
        CHECK.state("9 the ship did not read", x -> {
            Builds.oneFloat(x);
            x.station(2, 5);
            x.storm(2, 2);
            x.pass(2);
        }, x -> x.calibrate(0));
    }

    private static void promise18() {
        GyreWatch x = new GyreWatch();
        x.current(5, 1);
        x.lay(5, 2, 3, 4);
        x.lay(9, 20, 100, 0);
        x.station(2, 6);
        x.pass(3);
        x.calibrate(0);
        int[] due = {6, 1, 2, 4, 1};
        int[] second = {9, 17, 100, 0, 0};
        for (int what = 0; what < 5; what++) {
            CHECK.due("18 what " + what, due[what], x.ofFloat(0, what));
            CHECK.due("18 of the second " + what, second[what], x.ofFloat(1, what));
        }
        CHECK.index("18 no float", Builds::nothing, y -> y.ofFloat(0, 0));
        CHECK.index("18 below", Builds::oneFloat, y -> y.ofFloat(-1, 0));
        CHECK.index("18 above", Builds::oneFloat, y -> y.ofFloat(1, 0));
        CHECK.index("18 far above", Builds::eightFloats, y -> y.ofFloat(8, 0));
        CHECK.index("18 first of two", Builds::oneFloat, y -> y.ofFloat(1, 5));
        CHECK.argument("18 what below", Builds::oneFloat, y -> y.ofFloat(0, -1));
        CHECK.argument("18 what above", Builds::oneFloat, y -> y.ofFloat(0, 5));
    }
}

/** Promises 7, 8 and 19: stations and storms. */
public final class ShipTest {
    private static final Check CHECK = new Check("ShipTest");

    private ShipTest() {
    }

    public static void main(String[] args) {
        promise7();
        promise7ByRisingCells();
        promise7ThirtyToCome();
        promise7Refused();
        promise8();
        promise8Counts();
        promise8WheneverTold();
        promise8Refused();
        promise19();
        CHECK.end();
    }

    private static void promise7() {
        GyreWatch x = new GyreWatch();
        CHECK.due("7 first", 1, x.station(1, 0));
        CHECK.due("7 the last day", 2, x.station(1000, 59));
        CHECK.due("7 another cell", 3, x.station(1, 1));
        CHECK.due("7 another day", 4, x.station(2, 1));
        x.sun(0, 5);
        x.pass(1);
        CHECK.due("7 two were read", 2, x.readings());
        CHECK.due("7 its day", 1, x.ofReading(1, 0));
        CHECK.due("7 its cell", 1, x.ofReading(1, 1));
        CHECK.due("7 its value, the day's own sun in it", 1005, x.ofReading(1, 2));
        CHECK.due("7 its CORRECTED value", 1005, x.ofReading(1, 3));
        CHECK.due("7 GOOD", GyreWatch.GOOD, x.ofReading(1, 4));
        CHECK.due("7 of no float", GyreWatch.NONE, x.ofReading(1, 5));
        CHECK.due("7 the days behind are free", 3, x.station(3, 0));
    }

    private static void promise7ByRisingCells() {
        GyreWatch x = new GyreWatch();
        int[] told = {33, 59, 2, 0, 34, 12};
        int[] rising = {0, 2, 12, 33, 34, 59};
        for (int cell : told) {
            x.station(7, cell);
        }
        x.station(6, 58);
        x.station(8, 1);
        x.pass(7);
        CHECK.due("7 the day ahead", 58, x.ofReading(0, 1));
        for (int i = 0; i < rising.length; i++) {
            CHECK.due("7 by rising cells " + i, rising[i], x.ofReading(i + 1, 1));
        }
        CHECK.due("7 one to come", 1, x.stations());
        x.pass(1);
        CHECK.due("7 the day behind", 1, x.ofReading(7, 1));
    }

    private static void promise7ThirtyToCome() {
        GyreWatch x = new GyreWatch();
        Builds.thirtyStations(x);
        CHECK.due("7 thirty", 30, x.stations());
        x.pass(5);
        CHECK.due("7 of the next day", 15, x.stations());
        CHECK.due("7 fifteen read", 15, x.readings());
        CHECK.due("7 room again", 16, x.station(6, 1));
    }

    private static void promise7Refused() {
        CHECK.index("7 below", Builds::nothing, x -> x.station(1, -1));
        CHECK.index("7 above", Builds::nothing, x -> x.station(1, 60));
        CHECK.index("7 first of two", Builds::nothing, x -> x.station(0, 60));
        CHECK.argument("7 today", Builds::nothing, x -> x.station(0, 5));
        CHECK.argument("7 a day that was", x -> x.pass(9), x -> x.station(8, 5));
        CHECK.argument("7 today again", x -> x.pass(9), x -> x.station(9, 5));
        CHECK.argument("7 above 1000", Builds::nothing, x -> x.station(1001, 5));
        CHECK.argument("7 no later day", Builds::to1000, x -> x.station(1000, 5));
        CHECK.argument("7 greatest int", Builds::to1000, x -> x.station(Integer.MAX_VALUE, 5));
        CHECK.argument("7 first of two, LAND", x -> x.land(5), x -> x.station(0, 5));
        CHECK.state("7 LAND", x -> x.land(5), x -> x.station(1, 5));
        CHECK.state("7 told", x -> x.station(3, 5), x -> x.station(3, 5));
        CHECK.state("7 told among others", x -> {
            x.station(4, 5);
            x.station(3, 5);
            x.station(2, 5);
        }, x -> x.station(4, 5));
        CHECK.state("7 thirty to come", Builds::thirtyStations, x -> x.station(7, 5));
        CHECK.state("7 thirty to come, storms or not", x -> {
            x.storm(5, 9);
            Builds.thirtyStations(x);
        }, x -> x.station(7, 5));
        CHECK.state("7 told, in a storm", x -> {
            x.station(3, 5);
            x.storm(3, 3);
        }, x -> x.station(3, 5));
    }

    private static void promise8() {
        GyreWatch x = new GyreWatch();
        x.station(4, 11);
        x.station(5, 11);
        x.station(6, 11);
        x.station(7, 11);
        CHECK.due("8 two days", 2, x.storm(5, 6));
        CHECK.due("8 they are to come all the same", 4, x.stations());
        x.pass(4);
        CHECK.due("8 the day ahead", 1, x.readings());
        x.pass(1);
        CHECK.due("8 the first day", 1, x.readings());
        CHECK.due("8 not to come any more", 2, x.stations());
        x.pass(1);
        CHECK.due("8 the last day", 1, x.readings());
        x.pass(1);
        CHECK.due("8 the day behind", 2, x.readings());
        CHECK.due("8 none to come", 0, x.stations());
        CHECK.due("8 all later days", 0, x.storm(8, 1000));
        x.lay(3, 1, 1, 0);
        x.pass(1);
        CHECK.due("8 floats read in a storm", 3, x.readings());
    }

    private static void promise8Counts() {
        GyreWatch x = new GyreWatch();
        x.station(4, 11);
        x.station(4, 12);
        x.station(5, 11);
        x.station(9, 3);
        CHECK.due("8 two on a day", 2, x.storm(4, 4));
        CHECK.due("8 one no other has", 1, x.storm(3, 8));
        CHECK.due("8 none anew", 0, x.storm(4, 5));
        CHECK.due("8 the same again", 0, x.storm(3, 8));
        CHECK.due("8 the last", 1, x.storm(1, 1000));
        GyreWatch behind = new GyreWatch();
        behind.station(4, 11);
        behind.station(9, 11);
        behind.pass(4);
        CHECK.due("8 those to come alone", 1, behind.storm(9, 9));
        GyreWatch over = new GyreWatch();
        over.storm(1, 3);
        over.station(5, 0);
        over.pass(4);
        CHECK.due("8 a storm that is over", 1, over.storm(5, 5));
    }

    private static void promise8WheneverTold() {
        GyreWatch x = new GyreWatch();
        CHECK.due("8 ahead of the station", 0, x.storm(2, 3));
        CHECK.due("8 the station is told", 1, x.station(3, 5));
        CHECK.due("8 as another storm has it", 0, x.storm(3, 3));
        x.pass(3);
        CHECK.due("8 did not read", 0, x.readings());
        CHECK.due("8 is none to come", 0, x.stations());
    }

    private static void promise8Refused() {
        CHECK.argument("8 today", Builds::nothing, x -> x.storm(0, 5));
        CHECK.argument("8 a day that was", x -> x.pass(9), x -> x.storm(9, 12));
        CHECK.argument("8 above 1000", Builds::nothing, x -> x.storm(1001, 1001));
        CHECK.argument("8 to below from", Builds::nothing, x -> x.storm(5, 4));
        CHECK.argument("8 to above 1000", Builds::nothing, x -> x.storm(5, 1001));
        CHECK.argument("8 no later day", Builds::to1000, x -> x.storm(1000, 1000));
        CHECK.argument("8 first of two", Builds::twentyStorms, x -> x.storm(5, 4));
        CHECK.state("8 twenty told", Builds::twentyStorms, x -> x.storm(5, 5));
        CHECK.state("8 twenty told, over", x -> {
            Builds.twentyStorms(x);
            x.pass(9);
        }, x -> x.storm(10, 10));
        CHECK.state("8 and none is cancelled", x -> {
            Builds.twentyStorms(x);
            x.station(2, 5);
        }, x -> x.storm(2, 2));
    }

    private static void promise19() {
        GyreWatch x = new GyreWatch();
        CHECK.due("19 at first", 0, x.stations());
        x.station(3, 5);
        x.station(2, 5);
        x.station(2, 4);
        CHECK.due("19 three", 3, x.stations());
        x.storm(2, 2);
        CHECK.due("19 three, two in a storm", 3, x.stations());
        x.pass(1);
        CHECK.due("19 three still", 3, x.stations());
        x.pass(1);
        CHECK.due("19 one", 1, x.stations());
        x.pass(1);
        CHECK.due("19 none", 0, x.stations());
    }
}

/** Stations and storms; promises 7, 8 and 19. */
final class ShipEdges {
    private static final String PART = "Floats, ships, readings";

    private ShipEdges() {
    }

    static void tell(Edges edges) {
        tellTerms(edges);
        tellStation(edges);
        tellStorm(edges);
        edges.edge("19", "Returns how many stations are to come.", ShipEdges::howManyToCome);
    }

    private static void tellTerms(Edges edges) {
        edges.edge(PART, "A station is told for a later day", ShipEdges::laterDay);
        edges.edge(PART, "and a SEA cell", ShipEdges::seaCell);
        edges.edge(PART, "at most 30 to come", ShipEdges::atMost30);
        edges.edge(PART, "one for each cell and day", ShipEdges::oneForEach);
        edges.edge(PART, "A storm is told for days, from one to another one", ShipEdges::fromOneToAnother);
        edges.edge(PART, "days that storms have are the same whenever they were told", ShipEdges::wheneverTold);
        edges.edge(PART, "A station whose day has come is none to come any more, whether its ship read or not.",
                ShipEdges::noneToCome);
    }

    private static void tellStation(Edges edges) {
        edges.plain("7", "Tells a station of a ship.");
        edges.edge("7", "`day`: a later one, to 1000", ShipEdges::stationDays);
        edges.edge("7", "`cell`: 0 to 59", check -> check.within(0, 59, Builds::nothing, (x, c) -> x.station(1, c)));
        edges.edge("7", "Returns how many are to come.", ShipEdges::countsToCome);
        edges.edge("7", "`IndexOutOfBoundsException` if there is no such cell",
                check -> check.beyond(Check.INDEX, 0, 59, Builds::busy, (x, c) -> x.station(9, c)));
        edges.edge("7", "`IllegalArgumentException` if day is out of range", ShipEdges::stationDayRefused);
        edges.edge("7", "`IllegalStateException` if the cell is LAND", ShipEdges::stationOnLand);
        edges.edge("7", "there is one for that cell and day", ShipEdges::stationTwice);
        edges.edge("7", "or 30 are to come", ShipEdges::stationOf31);
    }

    private static void tellStorm(Edges edges) {
        edges.plain("8", "Tells a storm.");
        edges.edge("8", "`from`: a later day, to 1000", ShipEdges::stormFrom);
        edges.edge("8", "`to`: from to 1000", ShipEdges::stormTo);
        edges.edge("8", "Returns how many stations to come it cancels: those on its days", ShipEdges::cancelsOnItsDays);
        edges.edge("8", "that no other storm has", ShipEdges::cancelsNoneAnew);
        edges.edge("8", "`IllegalArgumentException` if from or to is out of range", ShipEdges::stormDaysRefused);
        edges.edge("8", "`IllegalStateException` if 20 were told, over or not", ShipEdges::stormOf21);
    }

    private static void laterDay(Check check) {
        check.argument("the day that is", Builds::nothing, x -> x.station(0, 5));
        check.argument("the day that is, later", x -> x.pass(7), x -> x.station(7, 5));
        check.argument("the day ahead of it", x -> x.pass(7), x -> x.station(6, 5));
        check.taken("the next day", x -> x.pass(7), x -> x.station(8, 5));
        check.argument("none is later", Builds::to1000, x -> x.station(1000, 5));
    }

    private static void seaCell(Check check) {
        check.state("LAND", x -> x.land(5), x -> x.station(1, 5));
        check.taken("beside LAND", x -> x.land(5), x -> x.station(1, 4));
    }

    private static void atMost30(Check check) {
        GyreWatch x = new GyreWatch();
        for (int i = 0; i < 30; i++) {
            check.due("station " + i, i + 1, x.station(1 + i % 3, i));
        }
        x.pass(1);
        check.due("10 are behind", 20, x.stations());
        for (int i = 0; i < 10; i++) {
            check.due("room again " + i, 21 + i, x.station(1000, i));
        }
        check.state("31, on many days", Builds::thirtyStations, y -> y.station(1000, 59));
    }

    private static void oneForEach(Check check) {
        check.state("the same again", x -> x.station(3, 5), x -> x.station(3, 5));
        check.taken("the next day", x -> x.station(3, 5), x -> x.station(4, 5));
        check.taken("the next cell", x -> x.station(3, 5), x -> x.station(3, 6));
        check.taken("day and cell like its number", x -> x.station(2, 0), x -> x.station(1, 59));
        check.state("among many", x -> {
            for (int i = 0; i < 20; i++) {
                x.station(20 - i, 2 * i);
            }
        }, x -> x.station(10, 20));
    }

    private static void fromOneToAnother(Check check) {
        GyreWatch x = new GyreWatch();
        for (int day = 1; day <= 6; day++) {
            x.station(day, 5);
        }
        check.due("a storm of a day", 1, x.storm(2, 2));
        check.due("a storm of two", 2, x.storm(4, 5));
        int[] readings = {1, 1, 2, 2, 2, 3};
        for (int day = 1; day <= 6; day++) {
            x.pass(1);
            check.due("by the day " + day, readings[day - 1], x.readings());
        }
    }

    private static void wheneverTold(Check check) {
        GyreWatch x = new GyreWatch();
        x.storm(3, 4);
        x.station(3, 5);
        x.station(4, 5);
        x.station(5, 5);
        x.pass(2);
        check.due("anew by a day", 0, x.storm(3, 3));
        x.pass(3);
        check.due("the days that no storm had", 1, x.readings());
        check.due("the day 5", 5, x.ofReading(0, 0));
        GyreWatch late = new GyreWatch();
        late.station(3, 5);
        late.pass(2);
        check.due("told the day ahead", 1, late.storm(3, 1000));
        late.pass(1);
        check.due("none read", 0, late.readings());
    }

    private static void noneToCome(Check check) {
        GyreWatch x = new GyreWatch();
        x.station(1, 5);
        x.station(2, 5);
        x.storm(2, 2);
        x.pass(1);
        check.due("its ship read", 1, x.stations());
        x.pass(1);
        check.due("its ship did not", 0, x.stations());
        GyreWatch full = new GyreWatch();
        Builds.eightLongFloats(full);
        full.station(13, 5);
        full.pass(12);
        check.due("to come still", 1, full.stations());
        full.pass(1);
        check.due("its reading was not kept", 0, full.stations());
        GyreWatch last = new GyreWatch();
        last.station(1000, 5);
        Builds.to1000(last);
        check.due("none after the last day", 0, last.stations());
    }

    private static void stationDays(Check check) {
        check.within(1, 1000, Builds::nothing, (x, day) -> x.station(day, 5));
        check.within(952, 1000, x -> Builds.to(x, 951), (x, day) -> x.station(day, 5));
        check.taken("the last day alone", x -> Builds.to(x, 999), x -> x.station(1000, 5));
    }

    private static void countsToCome(Check check) {
        GyreWatch x = new GyreWatch();
        check.due("the first", 1, x.station(2, 59));
        check.due("the second", 2, x.station(1000, 59));
        x.storm(2, 2);
        check.due("with one that a storm cancels", 3, x.station(3, 0));
        x.pass(2);
        check.due("less the one that was", 3, x.station(3, 1));
    }

    private static void stationDayRefused(Check check) {
        check.beyond(Check.ARGUMENT, 1, 1000, Builds::nothing, (x, day) -> x.station(day, 5));
        check.beyond(Check.ARGUMENT, 3, 1000, Builds::busy, (x, day) -> x.station(day, 5));
        check.beyond(Check.ARGUMENT, 1001, 1000, Builds::to1000, (x, day) -> x.station(day, 5));
    }

    private static void stationOnLand(Check check) {
        check.state("LAND", Builds::busy, x -> x.station(9, 44));
        check.state("all is LAND", Builds::allLand, x -> x.station(1000, 0));
    }

    private static void stationTwice(Check check) {
        check.state("twice", Builds::busy, x -> x.station(5, 12));
        check.state("twice, in a storm", Builds::busy, x -> x.station(4, 11));
        check.state("the first of thirty", x -> {
            for (int i = 0; i < 29; i++) {
                x.station(9, i);
            }
        }, x -> x.station(9, 0));
    }

    private static void stationOf31(Check check) {
        check.state("31", Builds::thirtyStations, x -> x.station(7, 5));
        check.state("31, storms or not", x -> {
            x.storm(5, 9);
            Builds.thirtyStations(x);
        }, x -> x.station(7, 5));
        check.taken("30", x -> {
            for (int i = 0; i < 29; i++) {
                x.station(9, i);
            }
        }, x -> x.station(9, 29));
    }

    private static void stormFrom(Check check) {
        check.within(1, 1000, Builds::nothing, (x, from) -> x.storm(from, 1000));
        check.taken("the last day alone", x -> Builds.to(x, 999), x -> x.storm(1000, 1000));
        check.argument("no later day", Builds::to1000, x -> x.storm(1000, 1000));
    }

    private static void stormTo(Check check) {
        check.within(7, 1000, Builds::nothing, (x, to) -> x.storm(7, to));
        check.within(3, 1000, Builds::busy, (x, to) -> x.storm(3, to));
    }

    private static void cancelsOnItsDays(Check check) {
        GyreWatch x = new GyreWatch();
        check.due("without stations", 0, x.storm(1000, 1000));
        Builds.thirtyStations(x);
        check.due("the days ahead", 0, x.storm(1, 4));
        check.due("the days behind", 0, x.storm(7, 999));
        check.due("the first of two days", 15, x.storm(5, 5));
        check.due("the other", 15, x.storm(6, 6));
        GyreWatch all = new GyreWatch();
        Builds.thirtyStations(all);
        check.due("all thirty", 30, all.storm(1, 1000));
        GyreWatch behind = new GyreWatch();
        behind.station(1, 5);
        behind.station(2, 5);
        behind.pass(1);
        check.due("those to come alone", 1, behind.storm(2, 1000));
    }

    private static void cancelsNoneAnew(Check check) {
        GyreWatch x = new GyreWatch();
        Builds.thirtyStations(x);
        check.due("the day 5", 15, x.storm(4, 5));
        check.due("a day of each", 15, x.storm(5, 6));
        check.due("all are cancelled", 0, x.storm(1, 1000));
        GyreWatch over = new GyreWatch();
        over.storm(1, 2);
        over.pass(3);
        over.station(4, 5);
        check.due("a storm that is over has no day to come", 1, over.storm(4, 4));
    }

    private static void stormDaysRefused(Check check) {
        check.beyond(Check.ARGUMENT, 1, 1000, Builds::nothing, (x, from) -> x.storm(from, 1000));
        check.beyond(Check.ARGUMENT, 3, 1000, Builds::busy, (x, from) -> x.storm(from, 1000));
        check.beyond(Check.ARGUMENT, 7, 1000, Builds::busy, (x, to) -> x.storm(7, to));
        check.argument("both the day that is", x -> x.pass(7), x -> x.storm(7, 7));
        check.argument("both above 1000", Builds::nothing, x -> x.storm(1001, 1001));
    }

    private static void stormOf21(Check check) {
        check.taken("the twentieth", x -> {
            for (int i = 0; i < 19; i++) {
                x.storm(1, 1000);
            }
        }, x -> x.storm(1, 1000));
        check.state("21", Builds::twentyStorms, x -> x.storm(1, 1));
        check.state("21, all over", x -> {
            Builds.twentyStorms(x);
            x.pass(2);
        }, x -> x.storm(3, 3));
        check.state("21, some over", x -> {
            for (int i = 0; i < 20; i++) {
                x.storm(1, 1 + i);
            }
            x.pass(10);
            x.station(30, 5);
        }, x -> x.storm(30, 30));
    }

    private static void howManyToCome(Check check) {
        GyreWatch x = new GyreWatch();
        check.due("at first", 0, x.stations());
        Builds.thirtyStations(x);
        check.due("the most", 30, x.stations());
        x.storm(1, 1000);
        check.due("all cancelled", 30, x.stations());
        x.pass(5);
        check.due("half are behind", 15, x.stations());
        x.pass(1);
        check.due("all are behind", 0, x.stations());
    }
}

/** What holds for all calls: what is kept, questions, divisions, constants, and which exception comes first. */
final class RefusalEdges {
    private RefusalEdges() {
    }

    static void tell(Edges edges) {
        edges.plain("What it is", "The open sea watched");
        edges.edge("What it is", "An object is used for at most 512 calls after it has been made",
                RefusalEdges::the512thCall);
        edges.edge("Terms", "Heat and salt are kept.", RefusalEdges::kept);
        edges.edge("Terms", "Questions change nothing.", RefusalEdges::questions);
        edges.plain("Terms", "All numbers are whole.");
        edges.edge("Terms", "Where something is divided, it is rounded towards 0.", RefusalEdges::towards0);
        tellExceptions(edges);
        tellConstants(edges);
        edges.plain("Not promised", "How the state is held inside the object is free", "Use of one object",
                "Nothing is promised beyond the answers");
        tellSignatures(edges);
    }

    private static void tellExceptions(Edges edges) {
        edges.edge("Exceptions", "IndexOutOfBoundsException: there is no such cell, float, reading or search.",
                RefusalEdges::noSuch);
        edges.edge("Exceptions", "IllegalArgumentException: another argument is out of its range.",
                RefusalEdges::anotherArgument);
        edges.plain("Exceptions", "IllegalStateException: as the method tells.");
        edges.edge("Exceptions", "If several apply, the one that is named first in the throws clause is thrown.",
                RefusalEdges::namedFirst);
        edges.edge("Exceptions", "A call that throws an exception changes nothing.", RefusalEdges::changesNothing);
    }

    private static void tellConstants(Edges edges) {
        edges.edge("Exceptions", "The constants: `NONE = -1`", check -> check.due("NONE", -1, GyreWatch.NONE));
        edges.edge("Exceptions", "`UPPER = 0, LOWER = 1`", check -> {
            check.due("UPPER", 0, GyreWatch.UPPER);
            check.due("LOWER", 1, GyreWatch.LOWER);
        });
        edges.edge("Exceptions", "`GOOD = 0, SPIKE = 1, BAD = 2`", check -> {
            check.due("GOOD", 0, GyreWatch.GOOD);
            check.due("SPIKE", 1, GyreWatch.SPIKE);
            check.due("BAD", 2, GyreWatch.BAD);
        });
        edges.plain("Exceptions", "Ahead of the calls `land`", "Ahead of the calls `lay`",
                "Ahead of the calls `search`", "Ahead of the calls `day`");
    }

    /** FaceTest looks at them. */
    private static void tellSignatures(Edges edges) {
        edges.plain("1", "`GyreWatch()`");
        String[] calls = {
            "land", "current", "sun", "pass", "lay", "station", "storm", "calibrate", "flag", "bound", "search",
            "leg", "part", "day", "ofLayer", "total", "ofFloat", "stations", "readings", "ofReading", "mean",
            "error", "residual", "chance", "best", "plan", "tide", "highest",
        };
        for (int i = 0; i < calls.length; i++) {
            edges.plain(Integer.toString(i + 2), "`int " + calls[i] + "(");
        }
    }

    private static void the512thCall(Check check) {
        GyreWatch x = new GyreWatch();
        for (int i = 0; i < 511; i++) {
            x.sun(0, i % 50);
        }
        check.due("the last told", 510 % 50, x.sun(0, 0));
        GyreWatch full = new GyreWatch();
        Builds.hundredReadings(full);
        Builds.thirtyStationsFrom(full, 20);
        Builds.fourSearches(full);
        Builds.sixParts(full);
        for (int i = 9 + 30 + 4 + 6; i < 511; i++) {
            full.current(i % 60, i % 5);
        }
        check.due("a full object goes on", 63, full.pass(50));
    }

    private static void kept(Check check) {
        GyreWatch x = new GyreWatch();
        for (int i = 0; i < 12; i++) {
            x.land(7 + 4 * i);
        }
        for (int cell = 0; cell < 60; cell++) {
            x.current(cell, (cell * 7 + cell / 10) % 5);
        }
        for (int y = 0; y < 6; y++) {
            x.sun(y, 20 * y - 50);
        }
        for (int i = 0; i < 20; i++) {
            x.pass(50);
            check.due("HEAT but for the gift, " + x.day(), 48 * 1400, x.total(0) - x.total(2));
            check.due("SALT, " + x.day(), 48 * 710, x.total(1));
        }
    }

    private static void questions(Check check) {
        Check.Call[] calls = {
            GyreWatch::day, GyreWatch::stations, GyreWatch::readings, x -> x.ofLayer(0, 1, 2), x -> x.total(2),
            x -> x.ofFloat(0, 1), x -> x.ofReading(1, 4), x -> x.mean(0, 1, 1000), x -> x.error(0, 1, 1000),
            x -> x.residual(1, 1000), x -> x.chance(0, 1), x -> x.best(0), x -> x.plan(0, 20, 99),
            x -> x.tide(7), x -> x.highest(7, 507),
        };
        for (int i = 0; i < calls.length; i++) {
            check.quiet("the question " + i, Builds::busy, calls[i]);
        }
    }

    private static void towards0(Check check) {
        GyreWatch x = new GyreWatch();
        x.part(12, 50, 0);
        check.due("a tide below 0", -16, x.tide(4));
        check.due("a tide above 0", 16, x.tide(2));
        GyreWatch cold = Builds.drained();
        check.due("a tenth of 9", 9, cold.ofLayer(0, GyreWatch.UPPER, 0));
        cold.sun(0, -50);
        cold.lay(0, 1, 1, -2);
        cold.lay(0, 1, 1, -1);
        cold.pass(1);
        check.due("a mean below 0", -1, cold.mean(0, 101, 0));
        check.due("an error", 1000 / 17, cold.error(0, 101, 0));
    }

    private static void noSuch(Check check) {
        check.index("cell", Builds::busy, x -> x.current(60, 0));
        check.index("float", Builds::busy, x -> x.calibrate(2));
        check.index("reading", Builds::busy, x -> x.flag(x.readings(), 0));
        check.index("search", Builds::busy, x -> x.best(1));
        check.index("none of a new object", Builds::nothing, x -> x.ofFloat(0, 0));
    }

    private static void anotherArgument(Check check) {
        check.argument("a y is no cell", Builds::busy, x -> x.sun(6, 0));
        check.argument("a layer is no cell", Builds::busy, x -> x.ofLayer(0, 2, 0));
        check.argument("a day is no reading", Builds::busy, x -> x.mean(0, 1001, 0));
        check.argument("a time", Builds::busy, x -> x.tide(-1));
    }

    private static void namedFirst(Check check) {
        check.index("land: no cell, not the day 0", Builds::busy, x -> x.land(60));
        check.index("current: no cell, no current", Builds::busy, x -> x.current(-1, 5));
        check.argument("pass: too many days, above 1000", Builds::to1000, x -> x.pass(51));
        check.argument("pass: no days, at 1000", Builds::to1000, x -> x.pass(0));
        check.index("lay: all three", Builds::eightFloats, x -> x.lay(60, 0, 0, 51));
        check.argument("lay: no bias, the ninth", Builds::eightFloats, x -> x.lay(0, 1, 1, 51));
        check.argument("lay: no battery, LAND", Builds::busy, x -> x.lay(44, 1, 0, 0));
        check.index("station: all three", Builds::thirtyStations, x -> x.station(0, 60));
        check.argument("station: no day, thirty", Builds::thirtyStations, x -> x.station(1001, 1));
        check.argument("station: no day, LAND", Builds::busy, x -> x.station(2, 44));
        check.argument("storm: no days, twenty", Builds::twentyStorms, x -> x.storm(2, 1));
        check.index("flag: no reading, no flag", Builds::busy, x -> x.flag(100, 3));
        check.index("search: no cell, the fifth", Builds::fourSearches, x -> x.search(60));
        check.index("leg: no search, no hundredths", Builds::busy, x -> x.leg(1, 0, 0));
        check.index("leg: no cell, no hundredths", Builds::busy, x -> x.leg(0, 60, 101));
        check.argument("part: no phase, the seventh", Builds::sixParts, x -> x.part(12, 1, 12));
        namedFirstOfQuestions(check);
    }

    private static void namedFirstOfQuestions(Check check) {
        check.index("ofLayer: no cell, no layer", Builds::busy, x -> x.ofLayer(60, 2, 3));
        check.index("ofFloat: no float, no what", Builds::busy, x -> x.ofFloat(2, 5));
        check.index("ofReading: no reading, no what", Builds::busy, x -> x.ofReading(100, 6));
        check.index("mean: no cell, no day", Builds::nothing, x -> x.mean(60, 1001, 0));
        check.argument("mean: no span, LAND", Builds::busy, x -> x.mean(44, 1, 1001));
        check.argument("mean: no day, no readings", Builds::nothing, x -> x.mean(0, -1, 0));
        check.index("error: no cell, no span", Builds::busy, x -> x.error(-1, 1, -1));
        check.argument("error: no day, LAND", Builds::busy, x -> x.error(44, 1001, 1));
        check.index("residual: no reading, no span", Builds::nothing, x -> x.residual(0, 1001));
        check.argument("residual: no span, none but it", Builds::oneReading, x -> x.residual(0, -1));
        check.index("plan: no search, no legs", Builds::busy, x -> x.plan(1, 0, 101));
    }

    private static void changesNothing(Check check) {
        check.state("land", Builds::busy, x -> x.land(0));
        check.argument("current", Builds::busy, x -> x.current(0, 5));
        check.argument("sun", Builds::busy, x -> x.sun(0, 51));
        check.state("pass", Builds::busyAt990, x -> x.pass(11));
        check.state("lay", Builds::busy, x -> x.lay(44, 1, 1, 0));
        check.state("station", Builds::busy, x -> x.station(5, 12));
        check.argument("storm", Builds::busy, x -> x.storm(5, 1001));
        check.state("calibrate", Builds::busy, x -> x.calibrate(1));
        check.argument("flag", Builds::busy, x -> x.flag(0, 3));
        check.argument("bound", Builds::busy, x -> x.bound(1001));
        check.state("search", Builds::busy, x -> x.search(44));
        check.argument("leg", Builds::busy, x -> x.leg(0, 0, 101));
        check.argument("part", Builds::busy, x -> x.part(12, 50, 12));
        check.argument("total", Builds::busy, x -> x.total(3));
        check.state("mean", Builds::busy, x -> x.mean(44, 2, 5));
        check.state("error", Builds::busy, x -> x.error(44, 2, 5));
        check.state("residual", Builds::oneReading, x -> x.residual(0, 5));
        check.argument("plan", Builds::busy, x -> x.plan(0, 21, 100));
        check.argument("highest", Builds::busy, x -> x.highest(9, 510));
    }
}

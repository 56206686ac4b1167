/** The sea: cells, layers, currents and suns; promises 1 to 5 and 15 to 17. */
final class SeaEdges {
    private static final int[] X_MORE = {0, 1, -1, 0, 0};
    private static final int[] Y_MORE = {0, 0, 0, 1, -1};

    private SeaEdges() {
    }

    static void tell(Edges edges) {
        tellTerms(edges);
        tellLand(edges);
        tellCurrentAndSun(edges);
        tellDays(edges);
        tellQuestions(edges);
    }

    private static void tellTerms(Edges edges) {
        edges.edge("The sea", "the cells 0 to 59", SeaEdges::cells);
        edges.edge("The sea", "the cell 10 times y and x, together, x being 0 to 9, y 0 to 5", SeaEdges::rows);
        edges.edge("The sea", "A cell is SEA, as at first", SeaEdges::seaAtFirst);
        edges.edge("The sea", "it can be made LAND on the day 0 alone", SeaEdges::landOnDay0Alone);
        edges.edge("The sea", "1000 and 350 in the UPPER, 400 and 360 in the LOWER one at first", SeaEdges::atFirst);
        edges.edge("The sea", "The weight of a layer is 5 times its SALT less its HEAT.", SeaEdges::weightBelow0);
        edges.edge("The sea", "LAND has no layers.", SeaEdges::landHasNoLayers);
        edges.edge("The sea", "0 none, as at first, 1 to the cell with x 1 more", SeaEdges::currents);
        edges.edge("The sea", "It leads nowhere, if that is beyond the sea", SeaEdges::nowhereBeyondTheSea);
        edges.edge("The sea", "or LAND.", SeaEdges::nowhereOnLand);
        edges.edge("The sea", "Each y has a sun, -50 to 50, 0 at first.", SeaEdges::suns);
    }

    private static void tellLand(Edges edges) {
        edges.edge("1", "A sea without LAND, on the day 0.", SeaEdges::newObject);
        edges.plain("2", "Makes a cell LAND.");
        edges.edge("2", "`cell`: 0 to 59", check -> check.within(0, 59, Builds::nothing, GyreWatch::land));
        edges.edge("2", "Returns how many cells are LAND.", SeaEdges::howManyLand);
        edges.edge("2", "`IndexOutOfBoundsException` if there is no such cell",
                check -> check.beyond(Check.INDEX, 0, 59, Builds::nothing, GyreWatch::land));
        edges.edge("2", "`IllegalStateException` if it is LAND", SeaEdges::landTwice);
        edges.edge("2", "the day is not 0", SeaEdges::landLater);
        edges.edge("2", "or a float", SeaEdges::landUnderFloat);
        edges.edge("2", "a station to come", SeaEdges::landUnderStation);
        edges.edge("2", "or the beginning of a search is there", SeaEdges::landUnderSearch);
    }

    private static void tellCurrentAndSun(Edges edges) {
        edges.plain("3", "Tells the current of a cell.");
        edges.edge("3", "`cell`: 0 to 59", check -> check.within(0, 59, Builds::nothing, (x, c) -> x.current(c, 1)));
        edges.edge("3", "`current`: 0 to 4", check -> check.within(0, 4, Builds::nothing, (x, c) -> x.current(5, c)));
        edges.edge("3", "Returns what it was.", SeaEdges::currentThatWas);
        edges.edge("3", "`IndexOutOfBoundsException` if there is no such cell",
                check -> check.beyond(Check.INDEX, 0, 59, Builds::busy, (x, c) -> x.current(c, 2)));
        edges.edge("3", "`IllegalArgumentException` if current is out of range",
                check -> check.beyond(Check.ARGUMENT, 0, 4, Builds::busy, (x, c) -> x.current(0, c)));
        edges.plain("4", "Tells the sun of a y.");
        edges.edge("4", "`y`: 0 to 5", check -> check.within(0, 5, Builds::nothing, (x, y) -> x.sun(y, 1)));
        edges.edge("4", "`sun`: -50 to 50", check -> check.within(-50, 50, Builds::nothing, (x, s) -> x.sun(2, s)));
        edges.edge("4", "Returns what it was.", SeaEdges::sunThatWas);
        edges.edge("4", "`IllegalArgumentException` if y or sun is out of range", SeaEdges::sunRefused);
    }

    private static void tellDays(Edges edges) {
        edges.plain("5", "Lets days pass.");
        edges.edge("5", "`days`: 1 to 50", check -> check.within(1, 50, Builds::nothing, GyreWatch::pass));
        edges.edge("5", "Returns the day then.", SeaEdges::dayThen);
        edges.edge("5", "`IllegalArgumentException` if days is out of range",
                check -> check.beyond(Check.ARGUMENT, 1, 50, Builds::busy, GyreWatch::pass));
        edges.edge("5", "`IllegalStateException` if it would be above 1000", SeaEdges::above1000);
        edges.edge("15", "Returns the day.", SeaEdges::dayAsked);
    }

    private static void tellQuestions(Edges edges) {
        edges.plain("16", "Tells something of a layer.");
        edges.edge("16", "`cell`: 0 to 59",
                check -> check.within(0, 59, Builds::nothing, (x, c) -> x.ofLayer(c, 0, 0)));
        edges.edge("16", "`layer`: UPPER or LOWER", SeaEdges::bothLayers);
        edges.edge("16", "`what`: 0 its HEAT, 1 its SALT, 2 its weight", SeaEdges::whatOfLayer);
        edges.edge("16", "Returns the number; 0 of LAND.", SeaEdges::nothingOfLand);
        edges.edge("16", "`IndexOutOfBoundsException` if there is no such cell",
                check -> check.beyond(Check.INDEX, 0, 59, Builds::busy, (x, c) -> x.ofLayer(c, 1, 2)));
        edges.edge("16", "`IllegalArgumentException` if layer or what is out of range", SeaEdges::layerRefused);
        edges.edge("17", "Returns a sum over all layers.", SeaEdges::sumsOfNothing);
        edges.edge("17", "`what`: 0 the HEAT, 1 the SALT, 2 the sun's gift since the day 0", SeaEdges::whatOfTotal);
        edges.edge("17", "Returns the sum.", SeaEdges::sumBelow0);
        edges.edge("17", "`IllegalArgumentException` if what is out of range",
                check -> check.beyond(Check.ARGUMENT, 0, 2, Builds::busy, GyreWatch::total));
    }

    private static void cells(Check check) {
        Check.CallOf[] calls = {
            GyreWatch::land, (x, c) -> x.current(c, 1), (x, c) -> x.lay(c, 1, 1, 0), (x, c) -> x.station(9, c),
            GyreWatch::search, (x, c) -> x.leg(0, c, 1), (x, c) -> x.ofLayer(c, 0, 0), (x, c) -> x.mean(c, 1, 1),
            (x, c) -> x.error(c, 1, 1), (x, c) -> x.chance(0, c),
        };
        for (Check.CallOf call : calls) {
            check.beyond(Check.INDEX, 0, 59, Builds::oneSearch, call);
        }
    }

    private static void rows(Check check) {
        for (int y = 0; y < 6; y++) {
            GyreWatch x = new GyreWatch();
            x.sun(y, 10);
            x.pass(1);
            for (int cell = 0; cell < 60; cell++) {
                boolean isOfRow = 10 * y <= cell && cell <= 10 * y + 9;
                check.due("sun of " + y + " on " + cell, isOfRow ? 1010 : 1000, x.ofLayer(cell, 0, 0));
            }
        }
    }

    private static void seaAtFirst(Check check) {
        for (int cell = 0; cell < 60; cell++) {
            int laid = cell;
            check.taken("a station in " + cell, Builds::nothing, x -> x.station(1, laid));
            check.taken("an error of " + cell, Builds::nothing, x -> x.error(laid, 0, 0));
        }
    }

    private static void landOnDay0Alone(Check check) {
        check.taken("on the day 0, after all else", x -> {
            Builds.eightFloats(x);
            Builds.twentyStorms(x);
            Builds.sixParts(x);
        }, x -> x.land(59));
        check.state("on the day 1", Builds::oneDay, x -> x.land(59));
        check.state("on the day 1000", Builds::to1000, x -> x.land(59));
    }

    private static void atFirst(Check check) {
        GyreWatch x = new GyreWatch();
        int[] due = {1000, 350, 400, 360};
        for (int i = 0; i < 240; i++) {
            check.due("cell " + i / 4 + ", " + i % 4, due[i % 4], x.ofLayer(i / 4, i / 2 % 2, i % 2));
        }
    }

    private static void weightBelow0(Check check) {
        GyreWatch x = new GyreWatch();
        x.sun(0, 50);
        x.pass(15);
        check.due("of 1750 HEAT and 350 SALT", 0, x.ofLayer(0, GyreWatch.UPPER, 2));
        x.pass(1);
        check.due("of 1800 HEAT and 350 SALT", -50, x.ofLayer(0, GyreWatch.UPPER, 2));
        check.due("of 400 HEAT and 360 SALT", 1400, x.ofLayer(0, GyreWatch.LOWER, 2));
    }

    private static void landHasNoLayers(Check check) {
        GyreWatch x = new GyreWatch();
        x.land(25);
        x.current(25, 1);
        x.current(24, 1);
        x.current(15, 3);
        x.sun(2, 50);
        x.pass(3);
        x.sun(2, -50);
        x.pass(9);
        for (int i = 0; i < 6; i++) {
            check.due("layer " + i / 3 + ", " + i % 3, 0, x.ofLayer(25, i / 3, i % 3));
        }
        check.due("gift to 9 cells", 9 * (3 - 9) * 50, x.total(2));
        check.due("nothing is led from it", 700, x.ofLayer(26, GyreWatch.UPPER, 0));
    }

    private static void currents(Check check) {
        int[] there = {25, 26, 24, 35, 15};
        for (int current = 0; current <= 4; current++) {
            GyreWatch x = new GyreWatch();
            check.due("at first", 0, x.current(25, current));
            x.pass(1);
            for (int cell = 0; cell < 60; cell++) {
                int more = (cell == there[current] ? 100 : 0) - (cell == 25 ? 100 : 0);
                check.due("by " + current + " in " + cell, 1000 + more, x.ofLayer(cell, GyreWatch.UPPER, 0));
            }
        }
    }

    private static void nowhereBeyondTheSea(Check check) {
        for (int i = 0; i < 240; i++) {
            int cell = i / 4;
            int current = i % 4 + 1;
            int x = cell % 10 + X_MORE[current];
            int y = cell / 10 + Y_MORE[current];
            boolean leads = x >= 0 && x <= 9 && y >= 0 && y <= 5;
            GyreWatch sea = new GyreWatch();
            sea.current(cell, current);
            sea.lay(cell, 1, 1, 0);
            sea.pass(1);
            String what = "from " + cell + " by " + current;
            check.due(what, leads ? 900 : 1000, sea.ofLayer(cell, GyreWatch.UPPER, 0));
            check.due(what + ", a float", leads ? 10 * y + x : cell, sea.ofFloat(0, 0));
            if (leads) {
                check.due(what + ", there", 1100, sea.ofLayer(10 * y + x, GyreWatch.UPPER, 0));
            }
        }
    }

    private static void nowhereOnLand(Check check) {
        int[] around = {24, 26, 15, 35};
        GyreWatch x = new GyreWatch();
        x.land(25);
        for (int i = 0; i < 4; i++) {
            x.current(around[i], i + 1);
            x.lay(around[i], 1, 1, 0);
            x.search(around[i]);
        }
        x.pass(1);
        for (int i = 0; i < 4; i++) {
            check.due("to LAND from " + around[i], 1000, x.ofLayer(around[i], GyreWatch.UPPER, 0));
            check.due("to LAND, the float " + i, around[i], x.ofFloat(i, 0));
            check.due("to LAND, the search " + i, 7000, x.chance(i, around[i]));
        }
        check.due("kept", 59 * 1400, x.total(0));
    }

    private static void suns(Check check) {
        GyreWatch x = new GyreWatch();
        for (int y = 0; y < 6; y++) {
            check.due("at first of " + y, 0, x.sun(y, y % 2 == 0 ? 50 : -50));
            check.due("then of " + y, y % 2 == 0 ? 50 : -50, x.sun(y, 0));
        }
        x.sun(0, 50);
        x.sun(5, -50);
        x.pass(1);
        check.due("the most", 1050, x.ofLayer(0, GyreWatch.UPPER, 0));
        check.due("the least", 950, x.ofLayer(59, GyreWatch.UPPER, 0));
        check.due("none", 1000, x.ofLayer(30, GyreWatch.UPPER, 0));
    }

    private static void newObject(Check check) {
        GyreWatch x = new GyreWatch();
        check.due("day", 0, x.day());
        for (int cell = 0; cell < 60; cell++) {
            check.due("LAND, as none was", cell + 1, x.land(cell));
        }
        GyreWatch other = new GyreWatch();
        check.due("another object has none of it", 84000, other.total(0));
    }

    private static void howManyLand(Check check) {
        GyreWatch x = new GyreWatch();
        for (int i = 0; i < 60; i++) {
            check.due("LAND " + i, i + 1, x.land(7 * i % 60));
        }
    }

    private static void landTwice(Check check) {
        check.state("twice", x -> x.land(5), x -> x.land(5));
        check.state("all are", Builds::allLand, x -> x.land(59));
    }

    private static void landLater(Check check) {
        check.state("on the day 1", Builds::oneDay, x -> x.land(5));
        check.state("on the day 50", x -> x.pass(50), x -> x.land(5));
    }

    private static void landUnderFloat(Check check) {
        check.state("a float", x -> x.lay(5, 1, 1, 0), x -> x.land(5));
        check.state("the eighth float", Builds::eightFloats, x -> x.land(7));
        check.taken("beside floats", Builds::eightFloats, x -> x.land(8));
    }

    private static void landUnderStation(Check check) {
        check.state("a station", x -> x.station(9, 5), x -> x.land(5));
        check.state("the thirtieth station", Builds::thirtyStations, x -> x.land(28));
        check.taken("beside stations", Builds::thirtyStations, x -> x.land(29));
        check.state("a station that a storm cancels", x -> {
            x.station(9, 5);
            x.storm(9, 9);
        }, x -> x.land(5));
    }

    private static void landUnderSearch(Check check) {
        check.state("a search", x -> x.search(5), x -> x.land(5));
        check.state("the fourth search", Builds::fourSearches, x -> x.land(3));
        check.taken("beside searches", Builds::fourSearches, x -> x.land(4));
        check.state("though no chance is left there", x -> {
            x.search(5);
            x.leg(0, 5, 100);
        }, x -> x.land(5));
    }

    private static void currentThatWas(Check check) {
        GyreWatch x = new GyreWatch();
        x.land(59);
        for (int current = 1; current <= 4; current++) {
            check.due("of SEA", current - 1, x.current(0, current));
            check.due("of LAND", current - 1, x.current(59, current));
        }
        check.due("the same again", 4, x.current(0, 4));
        check.due("none then", 4, x.current(0, 0));
        x.pass(1);
        check.due("and a day later", 0, x.current(0, 1));
    }

    private static void sunThatWas(Check check) {
        GyreWatch x = new GyreWatch();
        check.due("at first", 0, x.sun(5, -50));
        check.due("the least", -50, x.sun(5, 50));
        check.due("the most", 50, x.sun(5, 50));
        x.pass(1);
        check.due("and a day later", 50, x.sun(5, 0));
        check.due("of another y", 0, x.sun(4, 0));
    }

    private static void sunRefused(Check check) {
        check.beyond(Check.ARGUMENT, 0, 5, Builds::busy, (x, y) -> x.sun(y, 3));
        check.beyond(Check.ARGUMENT, -50, 50, Builds::busy, (x, sun) -> x.sun(0, sun));
        check.argument("both", Builds::busy, x -> x.sun(6, 51));
    }

    private static void dayThen(Check check) {
        GyreWatch x = new GyreWatch();
        check.due("the first", 1, x.pass(1));
        check.due("fifty more", 51, x.pass(50));
        Builds.to(x, 999);
        check.due("the last", 1000, x.pass(1));
    }

    private static void above1000(Check check) {
        GyreWatch x = new GyreWatch();
        Builds.to950(x);
        check.due("just 1000", 1000, x.pass(50));
        check.state("1001 by 50", y -> Builds.to(y, 951), y -> y.pass(50));
        check.state("1001 by 1", Builds::to1000, y -> y.pass(1));
        check.state("1050", Builds::to1000, y -> y.pass(50));
        check.taken("1000 by 49", y -> Builds.to(y, 951), y -> y.pass(49));
    }

    private static void dayAsked(Check check) {
        GyreWatch x = new GyreWatch();
        check.due("at first", 0, x.day());
        Builds.to1000(x);
        check.due("the last", 1000, x.day());
    }

    private static void bothLayers(Check check) {
        GyreWatch x = new GyreWatch();
        check.due("UPPER", 1000, x.ofLayer(59, GyreWatch.UPPER, 0));
        check.due("LOWER", 400, x.ofLayer(59, GyreWatch.LOWER, 0));
    }

    private static void whatOfLayer(Check check) {
        GyreWatch x = new GyreWatch();
        int[] due = {1000, 350, 750, 400, 360, 1400};
        for (int i = 0; i < 6; i++) {
            check.due("layer " + i / 3 + ", what " + i % 3, due[i], x.ofLayer(0, i / 3, i % 3));
        }
    }

    private static void nothingOfLand(Check check) {
        GyreWatch x = new GyreWatch();
        Builds.allLand(x);
        for (int i = 0; i < 360; i++) {
            check.due("LAND " + i / 6, 0, x.ofLayer(i / 6, i / 3 % 2, i % 3));
        }
    }

    private static void layerRefused(Check check) {
        check.beyond(Check.ARGUMENT, 0, 1, Builds::busy, (x, layer) -> x.ofLayer(0, layer, 0));
        check.beyond(Check.ARGUMENT, 0, 2, Builds::busy, (x, what) -> x.ofLayer(0, 0, what));
        check.beyond(Check.ARGUMENT, 0, 1, Builds::busy, (x, layer) -> x.ofLayer(44, layer, 0));
        check.beyond(Check.ARGUMENT, 0, 2, Builds::busy, (x, what) -> x.ofLayer(44, 1, what));
    }

    private static void sumsOfNothing(Check check) {
        GyreWatch x = new GyreWatch();
        Builds.allLand(x);
        x.sun(0, 50);
        x.pass(9);
        for (int what = 0; what < 3; what++) {
            check.due("all is LAND, " + what, 0, x.total(what));
        }
    }

    private static void whatOfTotal(Check check) {
        GyreWatch x = new GyreWatch();
        int[] due = {60 * 1400, 60 * 710, 0};
        for (int what = 0; what < 3; what++) {
            check.due("at first, " + what, due[what], x.total(what));
        }
        x.land(59);
        check.due("LAND's HEAT is gone", 59 * 1400, x.total(0));
        check.due("that is no gift", 0, x.total(2));
        x.sun(0, 50);
        x.pass(50);
        x.sun(0, -1);
        x.pass(50);
        check.due("since the day 0", 10 * 50 * 49, x.total(2));
    }

    private static void sumBelow0(Check check) {
        GyreWatch x = new GyreWatch();
        for (int y = 0; y < 6; y++) {
            x.sun(y, -50);
        }
        x.pass(50);
        check.due("the gift is all but the last HEAT", x.total(0) - 84000, x.total(2));
        check.due("a HEAT is left in each LOWER layer", 60, x.total(0));
        check.due("SALT", 42600, x.total(1));
    }
}

/** Floats and their calibration; promises 6, 9 and 18. */
final class FloatEdges {
    private static final String PART = "Floats, ships, readings";

    private FloatEdges() {
    }

    static void tell(Edges edges) {
        tellTerms(edges);
        tellLay(edges);
        tellCalibrate(edges);
        tellOfFloat(edges);
    }

    private static void tellTerms(Edges edges) {
        edges.edge(PART, "Floats are numbered from 0, at most 8", FloatEdges::atMost8);
        edges.edge(PART, "a float is in a SEA cell", FloatEdges::inSea);
        edges.edge(PART, "To calibrate a float is to look at its readings, whatever their flags are",
                FloatEdges::whateverFlags);
        edges.edge(PART, "the latest first", FloatEdges::latestFirst);
        edges.edge(PART, "for one with a reading of a ship", FloatEdges::ofAShip);
        edges.edge(PART, "in the same cell", FloatEdges::sameCell);
        edges.edge(PART, "at most 2 days apart", FloatEdges::twoDaysApart);
        edges.edge(PART, "of several such of ships for it that with the least days apart", FloatEdges::leastApart);
        edges.edge(PART, "of these the lowest number", FloatEdges::lowestNumber);
        edges.edge(PART, "The correction of the float, 0 at first, is the value of its reading less that of the ship",
                FloatEdges::correctionFrom0);
        edges.edge(PART, "from then on.", FloatEdges::fromThenOn);
    }

    private static void tellLay(Edges edges) {
        edges.plain("6", "Lays a float out.");
        edges.edge("6", "`cell`: 0 to 59", check -> check.within(0, 59, Builds::nothing, (x, c) -> x.lay(c, 1, 1, 0)));
        edges.edge("6", "`parks`: 1 to 20: days; so many are left at first", FloatEdges::parks);
        edges.edge("6", "`battery`: 1 to 100", FloatEdges::battery);
        edges.edge("6", "`bias`: -50 to 50", FloatEdges::bias);
        edges.edge("6", "Returns its number.", FloatEdges::numbers);
        edges.edge("6", "`IndexOutOfBoundsException` if there is no such cell",
                check -> check.beyond(Check.INDEX, 0, 59, Builds::busy, (x, c) -> x.lay(c, 1, 1, 0)));
        edges.edge("6", "`IllegalArgumentException` if parks, battery or bias is out of range", FloatEdges::layArguments);
        edges.edge("6", "`IllegalStateException` if the cell is LAND", FloatEdges::layOnLand);
        edges.edge("6", "or there are 8", FloatEdges::layNinth);
    }

    private static void tellCalibrate(Edges edges) {
        edges.plain("9", "Calibrates a float.");
        edges.edge("9", "`which`: its number", FloatEdges::calibrateFirstAndLast);
        edges.edge("9", "Returns its correction then.", FloatEdges::correctionThen);
        edges.edge("9", "`IndexOutOfBoundsException` if there is no such float",
                check -> noSuchFloat(check, GyreWatch::calibrate));
        edges.edge("9", "`IllegalStateException` if it has no reading as told", FloatEdges::noReadingAsTold);
    }

    private static void tellOfFloat(Edges edges) {
        edges.plain("18", "Tells something of a float.");
        edges.edge("18", "`which`: its number", FloatEdges::askFirstAndLast);
        edges.edge("18", "1 its days left, 0 if it is DEAD", FloatEdges::whatOfFloat);
        edges.edge("18", "Returns the number.", FloatEdges::whatAtItsEnds);
        edges.edge("18", "`IndexOutOfBoundsException` if there is no such float",
                check -> noSuchFloat(check, (x, which) -> x.ofFloat(which, 0)));
        edges.edge("18", "`IllegalArgumentException` if what is out of range",
                check -> check.beyond(Check.ARGUMENT, 0, 4, Builds::oneFloat, (x, what) -> x.ofFloat(0, what)));
    }

    private static void noSuchFloat(Check check, Check.CallOf call) {
        check.index("without floats", Builds::nothing, x -> call.on(x, 0));
        check.beyond(Check.INDEX, 0, 0, Builds::oneFloat, call);
        check.beyond(Check.INDEX, 0, 7, Builds::eightFloats, call);
    }

    private static void atMost8(Check check) {
        GyreWatch x = new GyreWatch();
        for (int i = 0; i < 8; i++) {
            check.due("float " + i, i, x.lay(5, 1, 1, 0));
        }
        check.state("the ninth", Builds::eightFloats, y -> y.lay(5, 1, 1, 0));
        check.state("the ninth, all DEAD", y -> {
            Builds.eightFloats(y);
            y.pass(2);
        }, y -> y.lay(5, 1, 1, 0));
    }

    private static void inSea(Check check) {
        check.state("not on LAND", x -> x.land(5), x -> x.lay(5, 1, 1, 0));
        check.taken("beside LAND", x -> x.land(5), x -> x.lay(6, 1, 1, 0));
    }

    private static void whateverFlags(Check check) {
        for (int flag = GyreWatch.GOOD; flag <= GyreWatch.BAD; flag++) {
            GyreWatch x = new GyreWatch();
            x.sun(0, 10);
            x.lay(5, 1, 2, 5);
            x.station(1, 5);
            x.pass(2);
            x.flag(0, GyreWatch.GOOD);
            x.flag(1, flag);
            x.flag(2, flag);
            check.due("all flagged by hand " + flag, 1025 - 1010, x.calibrate(0));
        }
        GyreWatch spike = new GyreWatch();
        spike.bound(0);
        spike.lay(5, 3, 9, 7);
        spike.station(6, 5);
        spike.pass(3);
        spike.sun(0, 50);
        spike.pass(3);
        spike.sun(0, -50);
        spike.pass(3);
        check.due("a SPIKE without a hand", GyreWatch.SPIKE, spike.ofReading(1, 4));
        check.due("by the SPIKE, as the latest is three days apart", 7, spike.calibrate(0));
    }

    private static void latestFirst(Check check) {
        GyreWatch x = new GyreWatch();
        x.sun(0, 10);
        x.lay(5, 1, 9, 0);
        x.station(1, 5);
        int[] due = {0, 10, 20, 20, 20};
        for (int day = 1; day <= due.length; day++) {
            x.pass(1);
            check.due("by the day " + day, due[day - 1], x.calibrate(0));
        }
        x.station(6, 5);
        x.pass(1);
        check.due("the latest of two", 0, x.calibrate(0));
    }

    private static void ofAShip(Check check) {
        check.state("another float there", x -> {
            x.lay(5, 1, 1, 5);
            x.lay(5, 1, 1, 6);
            x.pass(1);
        }, x -> x.calibrate(0));
        GyreWatch x = new GyreWatch();
        x.lay(5, 1, 1, 5);
        x.lay(5, 1, 1, 6);
        x.station(1, 5);
        x.pass(1);
        check.due("a ship behind another float", 5, x.calibrate(0));
        check.due("the other float", 6, x.calibrate(1));
    }

    private static void sameCell(Check check) {
        int[] others = {4, 6, 15, 0, 59};
        for (int other : others) {
            check.state("a ship in " + other, x -> {
                x.lay(5, 1, 1, 5);
                x.station(1, other);
                x.pass(1);
            }, x -> x.calibrate(0));
        }
        GyreWatch x = new GyreWatch();
        x.current(5, 1);
        x.lay(5, 1, 1, 5);
        x.station(1, 5);
        x.station(2, 6);
        x.pass(2);
        check.due("the cell where it read", 1105 - 1190, x.calibrate(0));
    }

    private static void twoDaysApart(Check check) {
        for (int shipDay = 1; shipDay <= 7; shipDay++) {
            int read = shipDay;
            Check.Build build = x -> {
                x.sun(0, 10);
                x.lay(5, 4, 1, 3);
                x.station(read, 5);
                x.pass(7);
            };
            if (Math.abs(shipDay - 4) <= 2) {
                GyreWatch x = new GyreWatch();
                build.on(x);
                check.due("a ship on the day " + shipDay, 3 + 10 * (4 - shipDay), x.calibrate(0));
            } else {
                check.state("a ship on the day " + shipDay, build, x -> x.calibrate(0));
            }
        }
    }

    private static void leastApart(Check check) {
        int[][] shipDays = {{2, 4}, {2, 5}, {3, 6}, {4, 5}, {4, 6}, {3, 4}};
        int[] nearest = {4, 5, 3, 4, 4, 4};
        for (int i = 0; i < shipDays.length; i++) {
            GyreWatch x = new GyreWatch();
            x.sun(0, 10);
            x.lay(5, 4, 1, 0);
            x.station(shipDays[i][0], 5);
            x.station(shipDays[i][1], 5);
            x.pass(6);
            check.due("of " + shipDays[i][0] + " and " + shipDays[i][1], 10 * (4 - nearest[i]), x.calibrate(0));
        }
    }

    private static void lowestNumber(Check check) {
        for (int apart = 1; apart <= 2; apart++) {
            GyreWatch x = new GyreWatch();
            x.sun(0, 10);
            x.lay(5, 4, 1, 0);
            x.station(4 + apart, 5);
            x.station(4 - apart, 5);
            x.pass(6);
            check.due("of two that are " + apart + " apart", 10 * apart, x.calibrate(0));
        }
    }

    private static void correctionFrom0(Check check) {
        int[] biases = {-50, -1, 0, 1, 50};
        for (int bias : biases) {
            GyreWatch x = new GyreWatch();
            x.lay(5, 1, 1, bias);
            x.station(1, 5);
            check.due("at first", 0, x.ofFloat(0, 3));
            x.pass(1);
            check.due("0 as long as it is not calibrated", 0, x.ofFloat(0, 3));
            check.due("of the BIAS " + bias, bias, x.calibrate(0));
            check.due("the ship's value less it is 1000", 1000, x.ofReading(0, 3));
        }
    }

    private static void fromThenOn(Check check) {
        GyreWatch x = new GyreWatch();
        x.lay(5, 1, 2, 9);
        x.lay(6, 1, 2, 9);
        x.station(1, 5);
        x.pass(1);
        x.calibrate(0);
        x.pass(50);
        check.due("days later, DEAD", 9, x.ofFloat(0, 3));
        check.due("not of the other", 0, x.ofFloat(1, 3));
    }

    private static void parks(Check check) {
        GyreWatch x = new GyreWatch();
        x.lay(0, 1, 9, 0);
        x.lay(0, 20, 9, 0);
        check.due("1 is left", 1, x.ofFloat(0, 1));
        check.due("20 are left", 20, x.ofFloat(1, 1));
        x.pass(1);
        check.due("read", 1, x.ofFloat(0, 4));
        check.due("19 are left", 19, x.ofFloat(1, 1));
    }

    private static void battery(Check check) {
        GyreWatch x = new GyreWatch();
        x.lay(0, 1, 1, 0);
        x.lay(0, 1, 100, 0);
        check.due("1", 1, x.ofFloat(0, 2));
        check.due("100", 100, x.ofFloat(1, 2));
        x.pass(50);
        x.pass(49);
        check.due("DEAD long ago", 1, x.ofFloat(0, 4));
        check.due("the last of 100", 1, x.ofFloat(1, 2));
        x.pass(1);
        check.due("DEAD", 0, x.ofFloat(1, 1));
    }

    private static void bias(Check check) {
        GyreWatch x = new GyreWatch();
        x.lay(0, 1, 1, -50);
        x.lay(0, 1, 1, 50);
        x.lay(0, 1, 1, 0);
        x.pass(1);
        check.due("the least", 950, x.ofReading(0, 2));
        check.due("the most", 1050, x.ofReading(1, 2));
        check.due("none", 1000, x.ofReading(2, 2));
    }

    private static void numbers(Check check) {
        GyreWatch x = new GyreWatch();
        for (int i = 0; i < 8; i++) {
            check.due("number " + i, i, x.lay(59 - i, 1 + i, 1, 0));
            x.pass(1);
        }
    }

    private static void layArguments(Check check) {
        check.beyond(Check.ARGUMENT, 1, 20, Builds::busy, (x, parks) -> x.lay(0, parks, 1, 0));
        check.beyond(Check.ARGUMENT, 1, 100, Builds::busy, (x, battery) -> x.lay(0, 1, battery, 0));
        check.beyond(Check.ARGUMENT, -50, 50, Builds::busy, (x, bias) -> x.lay(0, 1, 1, bias));
    }

    private static void layOnLand(Check check) {
        check.state("LAND", Builds::busy, x -> x.lay(44, 1, 1, 0));
        check.state("all is LAND", Builds::allLand, x -> x.lay(0, 20, 100, 50));
    }

    private static void layNinth(Check check) {
        check.state("the ninth", Builds::eightFloats, x -> x.lay(59, 1, 1, 0));
        check.taken("the eighth", x -> {
            for (int i = 0; i < 7; i++) {
                x.lay(i, 1, 1, 0);
            }
        }, x -> x.lay(59, 1, 1, 0));
    }

    private static void calibrateFirstAndLast(Check check) {
        GyreWatch x = new GyreWatch();
        for (int i = 0; i < 8; i++) {
            x.lay(i, 1, 1, i + 1);
            x.station(1, i);
        }
        x.pass(1);
        check.due("the last", 8, x.calibrate(7));
        check.due("the first", 1, x.calibrate(0));
        check.due("one between is not", 0, x.ofFloat(3, 3));
    }

    private static void correctionThen(Check check) {
        GyreWatch x = new GyreWatch();
        x.lay(5, 1, 9, 4);
        x.station(1, 5);
        x.pass(1);
        check.due("the first", 4, x.calibrate(0));
        check.due("it is not less by the last one", 4, x.calibrate(0));
        x.sun(0, 50);
        x.pass(2);
        check.due("anew", 104, x.calibrate(0));
        check.due("as told by ofFloat", 104, x.ofFloat(0, 3));
    }

    private static void noReadingAsTold(Check check) {
        check.state("no reading", Builds::oneFloat, x -> x.calibrate(0));
        check.state("a ship alone", x -> {
            x.lay(5, 2, 1, 0);
            x.station(1, 5);
            x.pass(1);
        }, x -> x.calibrate(0));
        check.state("no ship", Builds::oneReading, x -> x.calibrate(0));
        check.state("a ship kept in by a storm", x -> {
            x.lay(5, 1, 1, 0);
            x.station(1, 5);
            x.storm(1, 1);
            x.pass(1);
        }, x -> x.calibrate(0));
        check.state("a ship whose reading was not kept", x -> {
            Builds.eightLongFloats(x);
            x.station(13, 0);
            x.pass(13);
        }, x -> x.calibrate(0));
    }

    private static void askFirstAndLast(Check check) {
        GyreWatch x = new GyreWatch();
        Builds.eightFloats(x);
        check.due("the first", 0, x.ofFloat(0, 0));
        check.due("the last", 7, x.ofFloat(7, 0));
    }

    private static void whatOfFloat(Check check) {
        GyreWatch x = new GyreWatch();
        x.current(5, 1);
        x.lay(5, 1, 1, -4);
        x.station(1, 6);
        int[] ahead = {5, 1, 1, 0, 0};
        int[] behind = {6, 0, 0, -4, 1};
        for (int what = 0; what < 5; what++) {
            check.due("ahead, what " + what, ahead[what], x.ofFloat(0, what));
        }
        x.pass(1);
        x.calibrate(0);
        for (int what = 0; what < 5; what++) {
            check.due("DEAD, what " + what, behind[what], x.ofFloat(0, what));
        }
    }

    private static void whatAtItsEnds(Check check) {
        GyreWatch x = new GyreWatch();
        x.lay(59, 20, 100, 50);
        int[] due = {59, 20, 100, 0, 0};
        for (int what = 0; what < 5; what++) {
            check.due("what " + what, due[what], x.ofFloat(0, what));
        }
        GyreWatch kept = new GyreWatch();
        kept.lay(0, 1, 100, 0);
        Builds.to(kept, 100);
        check.due("all hundred are its own", 100, kept.ofFloat(0, 4));
    }
}

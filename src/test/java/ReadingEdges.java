/** Readings, their values and flags; promises 10, 11, 20 and 21. */
final class ReadingEdges {
    private static final String PART = "Floats, ships, readings";

    private ReadingEdges() {
    }

    static void tell(Edges edges) {
        tellReadings(edges);
        tellFlags(edges);
        tellFlag(edges);
        tellBound(edges);
        edges.edge("20", "Returns how many readings are kept.", ReadingEdges::howManyKept);
        tellOfReading(edges);
    }

    private static void tellReadings(Edges edges) {
        edges.edge(PART, "its value, which is the HEAT of the UPPER layer there, by then, and the BIAS, together",
                ReadingEdges::valueBelow0);
        edges.edge(PART, "a ship has a BIAS of 0", ReadingEdges::shipWithoutBias);
        edges.edge(PART, "Readings are numbered from 0, as they are made, at most 100", ReadingEdges::atMost100);
        edges.edge(PART, "more are not kept", ReadingEdges::moreAreNotKept);
        edges.edge(PART, "its value less the correction of the float, as that is now", ReadingEdges::correctedNow);
        edges.edge(PART, "of one of a ship its value", ReadingEdges::correctedOfShip);
    }

    private static void tellFlags(Edges edges) {
        edges.edge(PART, "one told by hand, GOOD 0, SPIKE 1 or BAD 2", ReadingEdges::byHand);
        edges.edge(PART, "without such a one it is SPIKE, if it is of a float", ReadingEdges::shipIsNoSpike);
        edges.edge(PART, "that has a reading ahead of it and one behind it", ReadingEdges::firstAndLast);
        edges.edge(PART, "the nearest of its own by numbers", ReadingEdges::nearestOfItsOwn);
        edges.edge(PART, "one behind it, the nearest of its own by numbers, whatever their flags are",
                ReadingEdges::neighboursWithFlags);
        edges.edge(PART, "and its CORRECTED value is more than the bound", ReadingEdges::moreThanBound);
        edges.edge(PART, "the bound, 100 at first", ReadingEdges::hundredAtFirst);
        edges.edge(PART, "above both", ReadingEdges::aboveBoth);
        edges.edge(PART, "or more than that below both", ReadingEdges::belowBoth);
        edges.edge(PART, "otherwise GOOD", ReadingEdges::otherwiseGood);
    }

    private static void tellFlag(Edges edges) {
        edges.plain("10", "Flags a reading by hand.");
        edges.edge("10", "`reading`: its number", ReadingEdges::flagFirstAndLast);
        edges.edge("10", "`flag`: GOOD to BAD, or NONE: not by hand any more", ReadingEdges::notByHandAnyMore);
        edges.edge("10", "Returns its flag before.", ReadingEdges::flagBefore);
        edges.edge("10", "`IndexOutOfBoundsException` if there is no such reading",
                check -> noSuchReading(check, (x, reading) -> x.flag(reading, GyreWatch.GOOD)));
        edges.edge("10", "`IllegalArgumentException` if flag is out of range",
                check -> check.beyond(Check.ARGUMENT, -1, 2, Builds::busy, (x, flag) -> x.flag(1, flag)));
    }

    private static void tellBound(Edges edges) {
        edges.plain("11", "Sets the bound of SPIKES.");
        edges.edge("11", "`bound`: 0 to 1000", ReadingEdges::leastAndMostBound);
        edges.edge("11", "Returns what it was.", ReadingEdges::boundThatWas);
        edges.edge("11", "`IllegalArgumentException` if bound is out of range",
                check -> check.beyond(Check.ARGUMENT, 0, 1000, Builds::busy, GyreWatch::bound));
    }

    private static void tellOfReading(Edges edges) {
        edges.plain("21", "Tells something of a reading.");
        edges.edge("21", "`reading`: its number", ReadingEdges::askFirstAndLast);
        edges.edge("21", "5 its float, NONE of a ship", ReadingEdges::whatOfReading);
        edges.edge("21", "Returns the number.", ReadingEdges::whatOfNothing);
        edges.edge("21", "`IndexOutOfBoundsException` if there is no such reading",
                check -> noSuchReading(check, (x, reading) -> x.ofReading(reading, 0)));
        edges.edge("21", "`IllegalArgumentException` if what is out of range",
                check -> check.beyond(Check.ARGUMENT, 0, 5, Builds::busy, (x, what) -> x.ofReading(0, what)));
    }

    private static void noSuchReading(Check check, Check.CallOf call) {
        check.index("without readings", Builds::nothing, x -> call.on(x, 0));
        check.index("a float that has not read", Builds::oneFloat, x -> call.on(x, 0));
        check.beyond(Check.INDEX, 0, 0, Builds::oneReading, call);
        check.beyond(Check.INDEX, 0, 99, Builds::hundredReadings, call);
    }

    /** A float's three readings, three days apart; the second is so much more than both others. */
    private static GyreWatch hump(int more) {
        GyreWatch x = new GyreWatch();
        x.lay(5, 3, 100, 0);
        x.pass(3);
        climb(x, more);
        climb(x, -more);
        return x;
    }

    private static void climb(GyreWatch x, int more) {
        int left = more;
        for (int i = 0; i < 3; i++) {
            int sun = Math.max(-50, Math.min(50, left));
            x.sun(0, sun);
            x.pass(1);
            left -= sun;
        }
    }

    private static void valueBelow0(Check check) {
        GyreWatch x = Builds.drained();
        x.sun(0, -50);
        x.lay(0, 1, 2, -50);
        x.lay(0, 1, 2, 50);
        x.pass(1);
        check.due("no HEAT and the least BIAS", -50, x.ofReading(0, 2));
        check.due("no HEAT and the most BIAS", 50, x.ofReading(1, 2));
        x.sun(0, 50);
        x.pass(1);
        check.due("of the day's HEAT by then", 0, x.ofReading(2, 2));
        check.due("those of the day ahead are as they were", -50, x.ofReading(0, 2));
    }

    private static void shipWithoutBias(Check check) {
        GyreWatch x = Builds.drained();
        x.sun(0, -50);
        x.lay(0, 1, 1, 33);
        x.station(101, 0);
        x.station(101, 59);
        x.pass(1);
        check.due("no HEAT", 0, x.ofReading(1, 2));
        check.due("the HEAT alone", 1000, x.ofReading(2, 2));
    }

    private static void atMost100(Check check) {
        GyreWatch x = new GyreWatch();
        x.lay(0, 1, 100, 0);
        x.station(1, 30);
        x.pass(50);
        check.due("51", 51, x.readings());
        check.due("the first", 0, x.ofReading(0, 5));
        check.due("the second", GyreWatch.NONE, x.ofReading(1, 5));
        for (int i = 2; i < 51; i++) {
            check.due("the day of the reading " + i, i, x.ofReading(i, 0));
        }
        x.pass(49);
        check.due("100", 100, x.readings());
        check.due("the last", 99, x.ofReading(99, 0));
        x.pass(1);
        check.due("100 still", 100, x.readings());
        check.due("the last as it was", 99, x.ofReading(99, 0));
        check.due("the first as it was", 1, x.ofReading(0, 0));
    }

    private static void moreAreNotKept(Check check) {
        GyreWatch x = new GyreWatch();
        x.lay(0, 1, 100, 0);
        x.station(98, 31);
        x.station(98, 7);
        x.station(98, 12);
        Builds.to(x, 97);
        check.due("97", 97, x.readings());
        x.pass(1);
        check.due("100 by two ships of three", 100, x.readings());
        check.due("the lower cells'", 12, x.ofReading(99, 1));
        x.pass(1);
        check.due("the float's is not kept", 98, x.ofFloat(0, 4));
        check.due("the battery is less all the same", 1, x.ofFloat(0, 2));
        GyreWatch many = new GyreWatch();
        Builds.hundredReadings(many);
        check.due("of the day 13, the fourth float's", 3, many.ofReading(99, 5));
        check.due("none behind the last makes it no SPIKE", GyreWatch.GOOD, many.ofReading(99, 4));
    }

    private static void correctedNow(Check check) {
        GyreWatch x = new GyreWatch();
        x.lay(5, 1, 9, 7);
        x.lay(5, 1, 9, -50);
        x.station(1, 5);
        x.pass(1);
        check.due("by 0 at first", 1007, x.ofReading(0, 3));
        x.calibrate(0);
        check.due("by 7", 1000, x.ofReading(0, 3));
        check.due("of a float not calibrated", 950, x.ofReading(1, 3));
        x.calibrate(1);
        check.due("by one below 0", 1000, x.ofReading(1, 3));
        check.due("the value is as it was", 1007, x.ofReading(0, 2));
        x.sun(0, 50);
        x.pass(1);
        check.due("a later one", 1050, x.ofReading(3, 3));
        x.calibrate(0);
        check.due("an earlier one by the later correction", 1007 - 57, x.ofReading(0, 3));
    }

    private static void correctedOfShip(Check check) {
        GyreWatch x = new GyreWatch();
        x.lay(5, 1, 1, 50);
        x.station(1, 5);
        x.pass(1);
        x.calibrate(0);
        check.due("value", 1000, x.ofReading(1, 2));
        check.due("CORRECTED value", 1000, x.ofReading(1, 3));
    }

    private static void byHand(Check check) {
        for (int flag = GyreWatch.GOOD; flag <= GyreWatch.BAD; flag++) {
            GyreWatch x = Builds.readingsBy(20, 0, 50, -50);
            x.station(4, 5);
            x.pass(1);
            for (int i = 0; i < 5; i++) {
                x.flag(i, flag);
                check.due("the reading " + i + " by hand", flag, x.ofReading(i, 4));
            }
            x.bound(0);
            x.bound(1000);
            check.due("whatever the bound", flag, x.ofReading(1, 4));
        }
    }

    private static void shipIsNoSpike(Check check) {
        GyreWatch x = new GyreWatch();
        x.bound(0);
        x.lay(5, 1, 9, 0);
        for (int day = 1; day <= 3; day++) {
            x.station(day, 5);
        }
        int[] suns = {0, 50, -50};
        for (int sun : suns) {
            x.sun(0, sun);
            x.pass(1);
        }
        check.due("of the float", GyreWatch.SPIKE, x.ofReading(2, 4));
        check.due("of the ship, as much above those of ships", GyreWatch.GOOD, x.ofReading(3, 4));
    }

    private static void firstAndLast(Check check) {
        check.due("the only one", GyreWatch.GOOD, Builds.readingsBy(0, 50).ofReading(0, 4));
        GyreWatch two = Builds.readingsBy(0, 0, 50);
        check.due("the first of two", GyreWatch.GOOD, two.ofReading(0, 4));
        check.due("the second of two", GyreWatch.GOOD, two.ofReading(1, 4));
        GyreWatch three = Builds.readingsBy(0, 0, 50, -50);
        check.due("the first of three", GyreWatch.GOOD, three.ofReading(0, 4));
        check.due("that between", GyreWatch.SPIKE, three.ofReading(1, 4));
        check.due("the last of three", GyreWatch.GOOD, three.ofReading(2, 4));
        GyreWatch others = new GyreWatch();
        others.bound(0);
        others.lay(50, 1, 9, 0);
        others.lay(5, 2, 1, 0);
        others.sun(0, 50);
        others.pass(3);
        check.due("between those of another float", 1, others.ofReading(2, 5));
        check.due("but the only one of its own", GyreWatch.GOOD, others.ofReading(2, 4));
    }

    private static void nearestOfItsOwn(Check check) {
        GyreWatch x = new GyreWatch();
        x.bound(40);
        x.lay(5, 1, 9, 0);
        x.lay(5, 1, 9, 45);
        x.lay(5, 1, 9, -45);
        x.pass(1);
        x.sun(0, 1);
        x.pass(1);
        x.sun(0, -1);
        x.pass(1);
        for (int i = 0; i < 9; i++) {
            check.due("others are far above and below it, " + i, GyreWatch.GOOD, x.ofReading(i, 4));
        }
        GyreWatch far = Builds.readingsBy(30, 0, 20, 20, -20, -20);
        check.due("not those farther off", GyreWatch.GOOD, far.ofReading(2, 4));
        far.bound(19);
        check.due("the nearest", GyreWatch.SPIKE, far.ofReading(2, 4));
    }

    private static void neighboursWithFlags(Check check) {
        for (int flag = GyreWatch.GOOD; flag <= GyreWatch.BAD; flag++) {
            GyreWatch x = Builds.readingsBy(20, 0, 50, -50);
            x.flag(0, flag);
            x.flag(2, flag);
            check.due("beside two flagged " + flag, GyreWatch.SPIKE, x.ofReading(1, 4));
            GyreWatch near = Builds.readingsBy(20, 0, 15, 10, -10, -15);
            near.flag(1, flag);
            near.flag(3, flag);
            check.due("not beyond two flagged " + flag, GyreWatch.GOOD, near.ofReading(2, 4));
        }
        GyreWatch zigzag = Builds.readingsBy(20, 0, 50, -50, 50, -50);
        int[] flags = {0, 1, 1, 1, 0};
        for (int i = 0; i < flags.length; i++) {
            check.due("beside SPIKES, " + i, flags[i], zigzag.ofReading(i, 4));
        }
    }

    private static void moreThanBound(Check check) {
        check.due("just the bound", GyreWatch.GOOD, Builds.readingsBy(30, 0, 30, -30).ofReading(1, 4));
        check.due("1 more", GyreWatch.SPIKE, Builds.readingsBy(30, 0, 31, -31).ofReading(1, 4));
        check.due("just the bound above the one ahead", GyreWatch.GOOD,
                Builds.readingsBy(30, 0, 30, -31).ofReading(1, 4));
        check.due("just the bound above the one behind", GyreWatch.GOOD,
                Builds.readingsBy(30, 0, 31, -30).ofReading(1, 4));
        GyreWatch x = new GyreWatch();
        x.lay(5, 1, 9, 50);
        x.station(1, 5);
        x.bound(30);
        int[] suns = {0, 31, -31};
        for (int sun : suns) {
            x.sun(0, sun);
            x.pass(1);
        }
        x.calibrate(0);
        check.due("all three are CORRECTED by as much", GyreWatch.SPIKE, x.ofReading(2, 4));
    }

    private static void hundredAtFirst(Check check) {
        check.due("100 more", GyreWatch.GOOD, hump(100).ofReading(1, 4));
        check.due("101 more", GyreWatch.SPIKE, hump(101).ofReading(1, 4));
        check.due("100 less", GyreWatch.GOOD, hump(-100).ofReading(1, 4));
        check.due("101 less", GyreWatch.SPIKE, hump(-101).ofReading(1, 4));
    }

    private static void aboveBoth(Check check) {
        check.due("above both", GyreWatch.SPIKE, Builds.readingsBy(20, 0, 21, -21).ofReading(1, 4));
        check.due("above the one ahead alone", GyreWatch.GOOD, Builds.readingsBy(20, 0, 50, -5).ofReading(1, 4));
        check.due("above the one behind alone", GyreWatch.GOOD, Builds.readingsBy(20, 0, 5, -50).ofReading(1, 4));
        check.due("above the one ahead, below the one behind", GyreWatch.GOOD,
                Builds.readingsBy(20, 0, 50, 50).ofReading(1, 4));
    }

    private static void belowBoth(Check check) {
        check.due("below both", GyreWatch.SPIKE, Builds.readingsBy(20, 0, -21, 21).ofReading(1, 4));
        check.due("below both by just the bound", GyreWatch.GOOD, Builds.readingsBy(20, 0, -20, 20).ofReading(1, 4));
        check.due("below the one ahead by just the bound", GyreWatch.GOOD,
                Builds.readingsBy(20, 0, -20, 21).ofReading(1, 4));
        check.due("below the one behind by just the bound", GyreWatch.GOOD,
                Builds.readingsBy(20, 0, -21, 20).ofReading(1, 4));
        check.due("below the one ahead, above the one behind", GyreWatch.GOOD,
                Builds.readingsBy(20, 0, -50, -50).ofReading(1, 4));
    }

    private static void otherwiseGood(Check check) {
        GyreWatch x = Builds.readingsBy(0, 0, 0, 0);
        for (int i = 0; i < 3; i++) {
            check.due("all the same, by the bound 0, " + i, GyreWatch.GOOD, x.ofReading(i, 4));
        }
        GyreWatch changing = Builds.readingsBy(20, 0, 30, -30);
        changing.bound(30);
        check.due("no SPIKE any more, as the bound is told", GyreWatch.GOOD, changing.ofReading(1, 4));
    }

    private static void flagFirstAndLast(Check check) {
        check.within(0, 99, Builds::hundredReadings, (x, reading) -> x.flag(reading, GyreWatch.BAD));
        GyreWatch x = new GyreWatch();
        Builds.hundredReadings(x);
        x.flag(0, GyreWatch.BAD);
        x.flag(99, GyreWatch.SPIKE);
        check.due("the first", GyreWatch.BAD, x.ofReading(0, 4));
        check.due("the last", GyreWatch.SPIKE, x.ofReading(99, 4));
        check.due("none between", GyreWatch.GOOD, x.ofReading(50, 4));
    }

    private static void notByHandAnyMore(Check check) {
        GyreWatch x = Builds.readingsBy(20, 0, 50, -50);
        check.due("NONE though none was told", GyreWatch.SPIKE, x.flag(1, GyreWatch.NONE));
        check.due("it is as it was", GyreWatch.SPIKE, x.ofReading(1, 4));
        x.flag(1, GyreWatch.BAD);
        x.flag(0, GyreWatch.BAD);
        x.flag(1, GyreWatch.NONE);
        x.flag(0, GyreWatch.NONE);
        check.due("SPIKE again", GyreWatch.SPIKE, x.ofReading(1, 4));
        check.due("GOOD again", GyreWatch.GOOD, x.ofReading(0, 4));
        check.within(-1, 2, Builds::busy, (y, flag) -> y.flag(0, flag));
    }

    private static void flagBefore(Check check) {
        GyreWatch x = Builds.readingsBy(20, 0, 50, -50);
        int[] told = {GyreWatch.GOOD, GyreWatch.SPIKE, GyreWatch.BAD, GyreWatch.BAD, GyreWatch.NONE, GyreWatch.NONE};
        int[] before = {GyreWatch.SPIKE, GyreWatch.GOOD, GyreWatch.SPIKE, GyreWatch.BAD, GyreWatch.BAD, GyreWatch.SPIKE};
        for (int i = 0; i < told.length; i++) {
            check.due("ahead of " + told[i], before[i], x.flag(1, told[i]));
        }
        check.due("of one that is GOOD without a hand", GyreWatch.GOOD, x.flag(2, GyreWatch.GOOD));
    }

    /** No sun makes 1001 in 20 days, so a current helps. */
    private static void leastAndMostBound(Check check) {
        check.due("1 more than 0", GyreWatch.SPIKE, Builds.readingsBy(0, 0, 1, -1).ofReading(1, 4));
        check.within(0, 1000, Builds::busy, GyreWatch::bound);
        for (int current = 0; current <= 1; current++) {
            GyreWatch x = new GyreWatch();
            x.bound(1000);
            x.lay(15, 20, 9, 0);
            x.pass(20);
            x.sun(1, 50);
            x.current(14, current);
            x.pass(20);
            x.sun(1, -50);
            x.current(14, 0);
            x.current(15, current == 0 ? 0 : 3);
            x.pass(19);
            x.current(15, 0);
            x.pass(1);
            check.due("more by 1000, or by far more", current, x.ofReading(1, 4));
        }
    }

    private static void boundThatWas(Check check) {
        GyreWatch x = new GyreWatch();
        check.due("at first", 100, x.bound(0));
        check.due("the least", 0, x.bound(1000));
        check.due("the most", 1000, x.bound(1000));
        x.pass(1);
        check.due("and a day later", 1000, x.bound(5));
    }

    private static void howManyKept(Check check) {
        GyreWatch x = new GyreWatch();
        check.due("none", 0, x.readings());
        Builds.hundredReadings(x);
        check.due("the most", 100, x.readings());
        x.flag(0, GyreWatch.BAD);
        x.pass(9);
        check.due("the most still", 100, x.readings());
    }

    private static void askFirstAndLast(Check check) {
        GyreWatch x = new GyreWatch();
        Builds.hundredReadings(x);
        check.due("the first", 1, x.ofReading(0, 0));
        check.due("the last", 13, x.ofReading(99, 0));
    }

    private static void whatOfReading(Check check) {
        GyreWatch x = new GyreWatch();
        Builds.eightFloats(x);
        x.station(1, 59);
        x.pass(1);
        int[][] due = {{1, 0, 1000, 1000, 0, 0}, {1, 7, 1000, 1000, 0, 7}, {1, 59, 1000, 1000, 0, -1}};
        int[] asked = {0, 7, 8};
        for (int i = 0; i < asked.length; i++) {
            for (int what = 0; what < 6; what++) {
                check.due("reading " + asked[i] + ", what " + what, due[i][what], x.ofReading(asked[i], what));
            }
        }
    }

    private static void whatOfNothing(Check check) {
        GyreWatch x = Builds.drained();
        x.sun(0, -50);
        x.lay(0, 1, 1, -50);
        x.pass(1);
        int[] due = {101, 0, -50, -50, 0, 0};
        for (int what = 0; what < 6; what++) {
            check.due("what " + what, due[what], x.ofReading(0, what));
        }
    }
}

/** Tides and their parts; promises 14, 28 and 29. */
final class TideEdges {
    private TideEdges() {
    }

    static void tell(Edges edges) {
        tellTerms(edges);
        tellPart(edges);
        tellTide(edges);
        tellHighest(edges);
    }

    private static void tellTerms(Edges edges) {
        edges.edge("Tides", "Tides are made of parts, at most 6", TideEdges::atMost6);
        edges.edge("Tides", "a part has a period, 2 to 60", TideEdges::shortAndLong);
        edges.edge("Tides", "a height, 0 to 100", TideEdges::lowAndHigh);
        edges.edge("Tides", "and a phase, from 0 to less than its period", TideEdges::phases);
        edges.edge("Tides", "At a time, 0 or more", TideEdges::firstAndLastTime);
        edges.edge("Tides", "it is at k, the remainder of the time and the phase, together, by the period",
                TideEdges::comesAgain);
        edges.edge("Tides", "(twice the number by which twice k and the period are apart, less the period)",
                TideEdges::turns);
        edges.edge("Tides", "gives its height times", TideEdges::roundedTowards0);
        edges.edge("Tides", "The tide is the sum of what all parts give.", TideEdges::sums);
    }

    private static void tellPart(Edges edges) {
        edges.plain("14", "Adds a part of the tides.");
        edges.edge("14", "`period`: 2 to 60", check -> check.within(2, 60, Builds::nothing, (x, p) -> x.part(p, 1, 0)));
        edges.edge("14", "`height`: 0 to 100",
                check -> check.within(0, 100, Builds::nothing, (x, height) -> x.part(9, height, 0)));
        edges.edge("14", "`phase`: 0 to period less 1", TideEdges::phasesTaken);
        edges.edge("14", "Returns how many there are.", TideEdges::howMany);
        edges.edge("14", "`IllegalArgumentException` if period, height or phase is out of range",
                TideEdges::partArguments);
        edges.edge("14", "`IllegalStateException` if there are 6", TideEdges::seventh);
    }

    private static void tellTide(Edges edges) {
        edges.plain("28", "Returns the tide at a time.");
        edges.edge("28", "`time`: 0 to 100000",
                check -> check.within(0, 100000, Builds::sixParts, GyreWatch::tide));
        edges.edge("28", "Returns the tide.", TideEdges::tideOfNothing);
        edges.edge("28", "`IllegalArgumentException` if time is out of range",
                check -> check.beyond(Check.ARGUMENT, 0, 100000, Builds::sixParts, GyreWatch::tide));
    }

    private static void tellHighest(Edges edges) {
        edges.edge("29", "Returns the first time of the highest tide.", TideEdges::firstOfSeveral);
        edges.edge("29", "`from`: 0 to 100000",
                check -> check.within(0, 100000, Builds::sixParts, (x, from) -> x.highest(from, from)));
        edges.edge("29", "`to`: from to from and 500, together", TideEdges::oneTimeTo501);
        edges.edge("29", "at most 100000", TideEdges::atMost100000);
        edges.edge("29", "Returns the time.", TideEdges::highestAtItsEnds);
        edges.edge("29", "`IllegalArgumentException` if from or to is out of range", TideEdges::highestArguments);
    }

    private static GyreWatch with(int period, int height, int phase) {
        GyreWatch x = new GyreWatch();
        x.part(period, height, phase);
        return x;
    }

    private static void atMost6(Check check) {
        GyreWatch x = new GyreWatch();
        for (int i = 1; i <= 6; i++) {
            check.due("part " + i, i, x.part(2, 100, 0));
        }
        check.state("the seventh", Builds::sixParts, y -> y.part(2, 100, 0));
    }

    private static void shortAndLong(Check check) {
        for (int period = 2; period <= 60; period++) {
            GyreWatch x = with(period, 100, 0);
            check.due("by " + period + " at first", 100, x.tide(0));
            check.due("by " + period + " again", 100, x.tide(period));
            check.due("by " + period + " ahead of that", x.tide(1), x.tide(period - 1));
            int lowest = period % 2 == 0 ? -100 : -100 * (period - 2) / period;
            check.due("by " + period + " at half", lowest, x.tide(period / 2));
        }
    }

    private static void lowAndHigh(Check check) {
        GyreWatch flat = with(12, 0, 5);
        GyreWatch little = with(12, 1, 0);
        int[] due = {1, 0, 0, 0, 0, 0, -1, 0, 0, 0, 0, 0, 1};
        for (int time = 0; time < due.length; time++) {
            check.due("of the height 0 at " + time, 0, flat.tide(time));
            check.due("of the height 1 at " + time, due[time], little.tide(time));
        }
        check.due("of the height 100", 100, with(12, 100, 0).tide(12));
    }

    private static void phases(Check check) {
        for (int phase = 0; phase < 60; phase++) {
            GyreWatch x = with(60, 60, phase);
            check.due("highest by the phase " + phase, 60, x.tide((60 - phase) % 60));
            check.due("lowest by the phase " + phase, -60, x.tide((90 - phase) % 60));
        }
        check.argument("the period itself", Builds::nothing, x -> x.part(60, 60, 60));
        check.argument("the shortest period itself", Builds::nothing, x -> x.part(2, 60, 2));
    }

    private static void firstAndLastTime(Check check) {
        GyreWatch x = with(60, 60, 59);
        check.due("at 0", 56, x.tide(0));
        check.due("at 1", 60, x.tide(1));
        check.due("at 100000, which is at 40 and 59", -60 + 4 * 9, x.tide(100000));
        check.argument("at -1", Builds::sixParts, y -> y.tide(-1));
    }

    private static void comesAgain(Check check) {
        GyreWatch x = with(7, 70, 6);
        int[] due = {30, 70, 30, -10, -50, -50, -10};
        for (int time = 0; time < 700; time += time < 21 ? 1 : 7) {
            check.due("at " + time, due[time % 7], x.tide(time));
        }
    }

    private static void turns(Check check) {
        GyreWatch even = with(4, 100, 0);
        int[] byFour = {100, 0, -100, 0, 100};
        GyreWatch odd = with(5, 100, 0);
        int[] byFive = {100, 20, -60, -60, 20, 100};
        GyreWatch two = with(2, 100, 1);
        int[] byTwo = {-100, 100, -100, 100, -100};
        for (int time = 0; time < 5; time++) {
            check.due("by 4 at " + time, byFour[time], even.tide(time));
            check.due("by 5 at " + time, byFive[time], odd.tide(time));
            check.due("by 2 at " + time, byTwo[time], two.tide(time));
        }
    }

    private static void roundedTowards0(Check check) {
        GyreWatch x = with(3, 100, 0);
        check.due("-100 by 3", -33, x.tide(1));
        check.due("-100 by 3 again", -33, x.tide(2));
        GyreWatch y = with(12, 50, 0);
        check.due("400 by 12", 33, y.tide(1));
        check.due("200 by 12", 16, y.tide(2));
        check.due("-200 by 12", -16, y.tide(4));
        GyreWatch both = new GyreWatch();
        both.part(3, 100, 0);
        both.part(3, 100, 0);
        both.part(3, 100, 0);
        check.due("each by itself", -99, both.tide(1));
    }

    private static void sums(Check check) {
        GyreWatch x = new GyreWatch();
        check.due("of none", 0, x.tide(0));
        for (int i = 1; i <= 6; i++) {
            x.part(2, 100, 0);
            check.due("of " + i, 100 * i, x.tide(0));
            check.due("of " + i + ", low", -100 * i, x.tide(1));
        }
        GyreWatch against = new GyreWatch();
        against.part(2, 100, 0);
        against.part(2, 100, 1);
        check.due("of two against each other", 0, against.tide(0));
    }

    private static void phasesTaken(Check check) {
        check.within(0, 1, Builds::nothing, (x, phase) -> x.part(2, 1, phase));
        check.within(0, 59, Builds::nothing, (x, phase) -> x.part(60, 1, phase));
    }

    private static void howMany(Check check) {
        GyreWatch x = new GyreWatch();
        for (int i = 1; i <= 6; i++) {
            check.due("part " + i, i, x.part(60, 0, 59));
            x.pass(1);
        }
    }

    private static void partArguments(Check check) {
        check.beyond(Check.ARGUMENT, 2, 60, Builds::busy, (x, period) -> x.part(period, 1, 0));
        check.beyond(Check.ARGUMENT, 0, 100, Builds::busy, (x, height) -> x.part(9, height, 0));
        check.beyond(Check.ARGUMENT, 0, 8, Builds::busy, (x, phase) -> x.part(9, 1, phase));
        check.argument("period 0 and phase 0", Builds::busy, x -> x.part(0, 1, 0));
        check.argument("all three", Builds::busy, x -> x.part(1, -1, 1));
    }

    private static void seventh(Check check) {
        check.state("the seventh", Builds::sixParts, x -> x.part(60, 100, 59));
        check.taken("the sixth", x -> {
            for (int i = 0; i < 5; i++) {
                x.part(2, 1, 0);
            }
        }, x -> x.part(60, 100, 59));
    }

    private static void tideOfNothing(Check check) {
        GyreWatch x = new GyreWatch();
        check.due("at the first time", 0, x.tide(0));
        check.due("at the last time", 0, x.tide(100000));
        x.pass(50);
        check.due("days later", 0, x.tide(50));
    }

    private static void firstOfSeveral(Check check) {
        check.due("without parts", 33, new GyreWatch().highest(33, 533));
        GyreWatch x = with(10, 100, 0);
        check.due("of 51 highest", 0, x.highest(0, 500));
        check.due("of 50 highest", 10, x.highest(1, 500));
        check.due("of two as high, none the highest", 3, x.highest(3, 7));
        check.due("of low ones that are as high", 4, with(10, 1, 0).highest(4, 4));
        GyreWatch flat = with(10, 1, 0);
        check.due("rounded to the same", 1, flat.highest(1, 9));
    }

    private static void oneTimeTo501(Check check) {
        GyreWatch x = new GyreWatch();
        x.part(59, 50, 0);
        x.part(60, 50, 20);
        check.due("from itself to itself", 7, x.highest(7, 7));
        check.due("the last of 501 times", 1180, x.highest(680, 1180));
        check.within(680, 1180, Builds::sixParts, (y, to) -> y.highest(680, to));
        check.beyond(Check.ARGUMENT, 680, 1180, Builds::sixParts, (y, to) -> y.highest(680, to));
    }

    private static void atMost100000(Check check) {
        check.within(99500, 100000, Builds::sixParts, (x, to) -> x.highest(99500, to));
        check.beyond(Check.ARGUMENT, 99501, 100000, Builds::sixParts, (x, to) -> x.highest(99501, to));
        check.beyond(Check.ARGUMENT, 100000, 100000, Builds::sixParts, (x, to) -> x.highest(100000, to));
        check.due("the last time of all", 100000, with(4, 9, 0).highest(99997, 100000));
    }

    private static void highestAtItsEnds(Check check) {
        GyreWatch x = with(60, 60, 0);
        check.due("the first time", 60, x.highest(60, 119));
        check.due("the last time", 60, x.highest(30, 60));
        check.due("the second time", 60, x.highest(59, 119));
        check.due("the last but one", 60, x.highest(30, 61));
        check.due("rising", 59, x.highest(30, 59));
        check.due("falling", 1, x.highest(1, 30));
        check.due("all below 0", 20, x.highest(20, 40));
    }

    private static void highestArguments(Check check) {
        check.beyond(Check.ARGUMENT, 0, 100000, Builds::sixParts, (x, from) -> x.highest(from, from));
        check.beyond(Check.ARGUMENT, 0, 500, Builds::sixParts, (x, from) -> x.highest(from, 500));
        check.argument("to below from", Builds::sixParts, x -> x.highest(1, 0));
        check.argument("both far off", Builds::sixParts, x -> x.highest(Integer.MAX_VALUE, Integer.MIN_VALUE));
        check.argument("beyond an int", Builds::sixParts, x -> x.highest(Integer.MAX_VALUE - 9, Integer.MAX_VALUE));
    }
}

/** Maps and readings left out; promises 22 to 24. */
final class MapEdges {
    private MapEdges() {
    }

    static void tell(Edges edges) {
        tellTerms(edges);
        tellMean(edges);
        tellError(edges);
        tellResidual(edges);
    }

    private static void tellTerms(Edges edges) {
        edges.edge("Maps", "A map tells of a SEA cell", MapEdges::seaCell);
        edges.edge("Maps", "of the readings that are GOOD", MapEdges::goodAlone);
        edges.edge("Maps", "and at most the span of days away from the day", MapEdges::spans);
        edges.edge("Maps", "each weighs 8 less how far its cell is in x and in y, together, if that is above 0",
                MapEdges::weights);
        edges.edge("Maps", "The mean of a map is the sum of their CORRECTED values, each times its weight",
                MapEdges::meanBeyondAnInt);
        edges.edge("Maps", "each times its weight, divided by the sum of weights", MapEdges::meanBelow0);
        edges.edge("Maps", "its error is 1000, divided by 1 and the sum of weights, together", MapEdges::errors);
        edges.edge("Maps", "To leave a reading out is to make the map of its cell and day without it",
                MapEdges::withoutIt);
        edges.edge("Maps", "(the flags of all others are as they are with it)", MapEdges::flagsAsWithIt);
        edges.edge("Maps", "the residual is its CORRECTED value less that mean", MapEdges::residualBelow0);
    }

    private static void tellMean(Edges edges) {
        edges.plain("22", "Returns the mean of a map.", "Returns the mean.");
        edges.edge("22", "`cell`: 0 to 59",
                check -> check.within(0, 59, MapEdges::readAtBothEnds, (x, c) -> x.mean(c, 1, 0)));
        edges.edge("22", "`day`: 0 to 1000",
                check -> check.within(0, 1000, Builds::oneReading, (x, day) -> x.mean(5, day, 1000)));
        edges.edge("22", "`span`: 0 to 1000",
                check -> check.within(0, 1000, Builds::oneReading, (x, span) -> x.mean(5, 1, span)));
        edges.edge("22", "`IndexOutOfBoundsException` if there is no such cell",
                check -> check.beyond(Check.INDEX, 0, 59, Builds::busy, (x, c) -> x.mean(c, 1, 1000)));
        edges.edge("22", "`IllegalArgumentException` if day or span is out of range", MapEdges::meanArguments);
        edges.edge("22", "`IllegalStateException` if the cell is LAND", MapEdges::meanOfLand);
        edges.edge("22", "or the sum of weights is 0", MapEdges::meanOfNothing);
    }

    private static void tellError(Edges edges) {
        edges.plain("23", "Returns the error of a map.");
        edges.edge("23", "`cell`: 0 to 59",
                check -> check.within(0, 59, Builds::nothing, (x, c) -> x.error(c, 1, 0)));
        edges.edge("23", "`day`: 0 to 1000",
                check -> check.within(0, 1000, Builds::nothing, (x, day) -> x.error(5, day, 0)));
        edges.edge("23", "`span`: 0 to 1000",
                check -> check.within(0, 1000, Builds::nothing, (x, span) -> x.error(5, 0, span)));
        edges.edge("23", "Returns the error; 1000 without readings.", MapEdges::errorWithoutReadings);
        edges.edge("23", "`IndexOutOfBoundsException` if there is no such cell",
                check -> check.beyond(Check.INDEX, 0, 59, Builds::busy, (x, c) -> x.error(c, 1, 1000)));
        edges.edge("23", "`IllegalArgumentException` if day or span is out of range", MapEdges::errorArguments);
        edges.edge("23", "`IllegalStateException` if the cell is LAND", MapEdges::errorOfLand);
    }

    private static void tellResidual(Edges edges) {
        edges.plain("24", "Leaves a reading out.", "Returns the residual.");
        edges.edge("24", "`reading`: its number, whatever its flag", MapEdges::whateverItsFlag);
        edges.edge("24", "`span`: 0 to 1000",
                check -> check.within(0, 1000, MapEdges::twoReadings, (x, span) -> x.residual(0, span)));
        edges.edge("24", "`IndexOutOfBoundsException` if there is no such reading", MapEdges::residualOfNone);
        edges.edge("24", "`IllegalArgumentException` if span is out of range",
                check -> check.beyond(Check.ARGUMENT, 0, 1000, Builds::busy, (x, span) -> x.residual(0, span)));
        edges.edge("24", "`IllegalStateException` if the sum of weights is 0", MapEdges::residualOfNothing);
    }

    private static void readAtBothEnds(GyreWatch x) {
        x.station(1, 0);
        x.station(1, 59);
        x.pass(1);
    }

    /** On the day 1 in the cell 5: 1003 by a float, 1000 by a ship. */
    private static void twoReadings(GyreWatch x) {
        x.station(1, 5);
        Builds.oneReading(x);
    }

    private static int farFrom(int cell, int other) {
        return Math.abs(cell % 10 - other % 10) + Math.abs(cell / 10 - other / 10);
    }

    private static void seaCell(Check check) {
        Check.Build build = x -> {
            x.land(5);
            x.station(1, 4);
            x.pass(1);
        };
        check.state("the mean of LAND", build, x -> x.mean(5, 1, 0));
        check.state("the error of LAND", build, x -> x.error(5, 1, 0));
        check.taken("the mean beside LAND", build, x -> x.mean(6, 1, 0));
    }

    private static void goodAlone(Check check) {
        int[] flags = {GyreWatch.SPIKE, GyreWatch.BAD};
        for (int flag : flags) {
            GyreWatch x = new GyreWatch();
            twoReadings(x);
            x.flag(0, flag);
            check.due("the other alone", 1000, x.mean(5, 1, 0));
            check.due("by its weight", 1000 / 9, x.error(5, 1, 0));
            x.flag(0, GyreWatch.GOOD);
            check.due("both", 1001, x.mean(5, 1, 0));
            x.flag(0, flag);
            x.flag(1, flag);
            check.due("none", 1000, x.error(5, 1, 0));
        }
        GyreWatch spike = Builds.readingsBy(20, 0, 50, -50);
        check.due("without the SPIKE", 1000, spike.mean(5, 2, 1));
        spike.bound(50);
        check.due("with what is none any more", (1000 + 1050 + 1000) / 3, spike.mean(5, 2, 1));
    }

    private static void spans(Check check) {
        GyreWatch x = new GyreWatch();
        x.station(5, 5);
        x.pass(9);
        for (int day = 0; day <= 10; day++) {
            for (int span = 0; span <= 6; span++) {
                int due = Math.abs(day - 5) <= span ? 1000 / 9 : 1000;
                check.due("on the day " + day + " by " + span, due, x.error(5, day, span));
            }
        }
        check.due("the last day, just", 1000 / 9, x.error(5, 1000, 995));
        check.due("the last day, not quite", 1000, x.error(5, 1000, 994));
    }

    private static void weights(Check check) {
        int[] read = {0, 9, 50, 59, 25};
        for (int from : read) {
            GyreWatch x = new GyreWatch();
            x.station(1, from);
            x.pass(1);
            for (int i = 0; i < 60; i++) {
                int cell = i;
                int weight = Math.max(0, 8 - farFrom(from, cell));
                String what = "of " + from + " in " + cell;
                check.due("the error " + what, 1000 / (1 + weight), x.error(cell, 1, 0));
                check.text("the mean " + what, weight > 0 ? "the answer 1000" : "IllegalStateException",
                        Check.answerOf(x, y -> y.mean(cell, 1, 0)));
            }
        }
    }

    private static void meanBelow0(Check check) {
        int[][] biases = {{-50, -47}, {-1, 0}, {-50, -50}, {50, -49}, {49, -50}};
        int[] due = {-48, 0, -50, 0, 0};
        for (int i = 0; i < due.length; i++) {
            GyreWatch x = Builds.drained();
            x.sun(0, -50);
            x.lay(0, 1, 1, biases[i][0]);
            x.lay(0, 1, 1, biases[i][1]);
            x.pass(1);
            check.due("of " + biases[i][0] + " and " + biases[i][1], due[i], x.mean(0, 101, 0));
        }
        GyreWatch x = new GyreWatch();
        twoReadings(x);
        x.calibrate(0);
        check.due("CORRECTED", 1000, x.mean(5, 1, 0));
    }

    /** All that is warm comes to one cell: a hundred readings of millions, each of them 8 times. */
    private static void meanBeyondAnInt(Check check) {
        GyreWatch x = new GyreWatch();
        for (int cell = 0; cell < 59; cell++) {
            x.current(cell, cell % 10 < 9 ? 1 : 3);
        }
        for (int y = 0; y < 6; y++) {
            x.sun(y, 50);
        }
        for (int i = 0; i < 19; i++) {
            x.pass(50);
        }
        x.pass(37);
        for (int i = 0; i < 8; i++) {
            x.lay(59, 1, 100, 0);
        }
        x.pass(13);
        long sum = 0;
        for (int i = 0; i < 100; i++) {
            sum += x.ofReading(i, 2);
        }
        check.due("a hundred", 100, x.readings());
        check.due("beyond an int", 1, sum * 8 > Integer.MAX_VALUE ? 1 : 0);
        check.due("its mean", sum / 100, x.mean(59, 1000, 20));
        check.due("its error", 1, x.error(59, 1000, 20));
    }

    private static void errors(Check check) {
        GyreWatch x = new GyreWatch();
        check.due("of weights 0", 1000, x.error(0, 0, 1000));
        x.station(1, 7);
        x.pass(1);
        check.due("of weights 1", 500, x.error(0, 1, 0));
        GyreWatch most = new GyreWatch();
        most.lay(5, 1, 100, 0);
        Builds.to(most, 100);
        check.due("of weights 800", 1, most.error(5, 50, 50));
        check.due("of weights 792", 1, most.error(5, 50, 49));
        check.due("of weights 8 and 8", 1000 / 17, most.error(5, 0, 2));
    }

    private static void withoutIt(Check check) {
        GyreWatch x = new GyreWatch();
        x.sun(0, 10);
        x.station(1, 5);
        x.station(3, 5);
        x.station(3, 6);
        x.pass(3);
        check.due("its cell, its day", 0, x.residual(2, 0));
        check.due("by its span, one day", 1030 - 1030, x.residual(1, 1));
        check.due("by its span, two days", 1030 - (8 * 1010 + 7 * 1030) / 15, x.residual(1, 2));
        check.due("of the day 1", 1010 - (8 * 1030 + 7 * 1030) / 15, x.residual(0, 2));
    }

    private static void flagsAsWithIt(Check check) {
        GyreWatch x = Builds.readingsBy(20, 0, 50, -50);
        check.due("that of the day 2 is a SPIKE without the one behind it", 0, x.residual(2, 9));
        check.due("and without the one ahead of it", 0, x.residual(0, 9));
        check.due("the SPIKE left out", 50, x.residual(1, 9));
        GyreWatch none = Builds.readingsBy(0, 0, 50, -50, 50);
        check.due("the two SPIKES are none of the map", -50, none.residual(0, 9));
    }

    private static void residualBelow0(Check check) {
        GyreWatch x = new GyreWatch();
        twoReadings(x);
        check.due("above", 3, x.residual(0, 0));
        check.due("below", -3, x.residual(1, 0));
        x.calibrate(0);
        check.due("CORRECTED", 0, x.residual(0, 0));
        check.due("by a CORRECTED one", 0, x.residual(1, 0));
        GyreWatch rounded = Builds.drained();
        rounded.sun(0, -50);
        int[] biases = {5, -1, 0};
        for (int bias : biases) {
            rounded.lay(0, 1, 1, bias);
        }
        rounded.pass(1);
        check.due("the mean is rounded, not the residual", 5, rounded.residual(0, 0));
        check.due("the mean of 5 and 0 is 2", -3, rounded.residual(1, 0));
    }

    private static void meanArguments(Check check) {
        check.beyond(Check.ARGUMENT, 0, 1000, Builds::busy, (x, day) -> x.mean(0, day, 1000));
        check.beyond(Check.ARGUMENT, 0, 1000, Builds::busy, (x, span) -> x.mean(0, 1, span));
        check.argument("both", Builds::busy, x -> x.mean(0, -1, 1001));
    }

    private static void meanOfLand(Check check) {
        check.state("LAND beside readings", x -> {
            x.land(5);
            x.station(1, 4);
            x.station(1, 6);
            x.pass(1);
        }, x -> x.mean(5, 1, 1000));
        check.state("LAND without readings", Builds::allLand, x -> x.mean(5, 0, 0));
    }

    private static void meanOfNothing(Check check) {
        check.state("no readings", Builds::nothing, x -> x.mean(5, 0, 1000));
        check.state("all are SPIKES", x -> {
            Builds.oneReading(x);
            x.flag(0, GyreWatch.SPIKE);
        }, x -> x.mean(5, 1, 0));
        check.state("all are of other days", Builds::oneReading, x -> x.mean(5, 3, 1));
        check.state("all are 8 away", Builds::oneReading, x -> x.mean(49, 1, 0));
        check.taken("one is 7 away", Builds::oneReading, x -> x.mean(48, 1, 0));
    }

    private static void errorWithoutReadings(Check check) {
        GyreWatch x = new GyreWatch();
        for (int cell = 0; cell < 60; cell++) {
            check.due("of " + cell, 1000, x.error(cell, 1000, 1000));
        }
    }

    private static void errorArguments(Check check) {
        check.beyond(Check.ARGUMENT, 0, 1000, Builds::busy, (x, day) -> x.error(0, day, 1000));
        check.beyond(Check.ARGUMENT, 0, 1000, Builds::busy, (x, span) -> x.error(0, 1, span));
        check.argument("both", Builds::busy, x -> x.error(0, 1001, -1));
    }

    private static void errorOfLand(Check check) {
        check.state("LAND", Builds::busy, x -> x.error(44, 1, 1000));
        check.state("all is LAND", Builds::allLand, x -> x.error(0, 0, 0));
    }

    private static void whateverItsFlag(Check check) {
        for (int flag = GyreWatch.NONE; flag <= GyreWatch.BAD; flag++) {
            GyreWatch x = new GyreWatch();
            twoReadings(x);
            x.flag(0, flag);
            check.due("flagged " + flag, 3, x.residual(0, 0));
        }
        check.within(0, 99, Builds::hundredReadings, (x, reading) -> x.residual(reading, 0));
    }

    private static void residualOfNone(Check check) {
        check.index("no readings", Builds::nothing, x -> x.residual(0, 0));
        check.beyond(Check.INDEX, 0, 1, MapEdges::twoReadings, (x, reading) -> x.residual(reading, 0));
        check.beyond(Check.INDEX, 0, 99, Builds::hundredReadings, (x, reading) -> x.residual(reading, 1000));
    }

    private static void residualOfNothing(Check check) {
        check.state("none but it", Builds::oneReading, x -> x.residual(0, 1000));
        check.state("the other is BAD", x -> {
            twoReadings(x);
            x.flag(1, GyreWatch.BAD);
        }, x -> x.residual(0, 1000));
        check.state("the other is 8 away", x -> {
            x.station(1, 0);
            x.station(1, 8);
            x.pass(1);
        }, x -> x.residual(1, 1000));
        check.state("the other is of another day", x -> {
            x.station(1, 5);
            x.station(4, 5);
            x.pass(4);
        }, x -> x.residual(1, 2));
    }
}

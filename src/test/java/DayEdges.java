/** What happens in a day, step by step. */
final class DayEdges {
    private DayEdges() {
    }

    static void tell(Edges edges) {
        edges.edge("A day", "Days are counted from 0.", DayEdges::from0);
        edges.edge("A day", "In each day that passes, in this order:", DayEdges::order);
        edges.edge("A day", "The day is 1 more.", DayEdges::oneMore);
        edges.edge("A day", "gives a tenth of the HEAT, and a tenth of the SALT", DayEdges::lessThanATenth);
        edges.edge("A day", "UPPER layer of the cell to which it leads; of what all cells had ahead of this, all at once",
                DayEdges::allAtOnce);
        edges.edge("A day", "more by the sun of its y, but at least 0", DayEdges::atLeast0);
        edges.edge("A day", "What it became more by, less what it became less by, is the sun's gift.",
                DayEdges::giftOfLittle);
        edges.edge("A day", "whose UPPER layer weighs more than its LOWER one", DayEdges::weighsMore);
        edges.edge("A day", "the HEAT of both, together, divided by 2, is that of the UPPER one, the rest of it",
                DayEdges::oddHeat);
        edges.edge("A day", "likewise the SALT", DayEdges::oddSalt);
        tellFloats(edges);
        tellChances(edges);
        edges.edge("A day", "Ships read at their stations of this day", DayEdges::stationsOfThisDay);
        edges.edge("A day", "by rising cells", DayEdges::risingCells);
        edges.edge("A day", "unless the day is one of a storm", DayEdges::unlessStorm);
    }

    private static void tellFloats(Edges edges) {
        edges.edge("A day", "The floats, by rising numbers", DayEdges::risingNumbers);
        edges.edge("A day", "that are not DEAD", DayEdges::notDead);
        edges.edge("A day", "the days left of one are 1 less; if they are 0 by that, it rises", DayEdges::rises);
        edges.edge("A day", "or stays, if that leads nowhere", DayEdges::stays);
        edges.edge("A day", "it reads there", DayEdges::readsThere);
        edges.edge("A day", "its battery is 1 less, also if the reading is not kept", DayEdges::notKept);
        edges.edge("A day", "at 0 it is DEAD", DayEdges::dead);
        edges.edge("A day", "otherwise its days left are as many as it parks", DayEdges::parksAgain);
    }

    private static void tellChances(Edges edges) {
        edges.edge("A day", "each cell gives a tenth of its chance to each of the cells beside it", DayEdges::beside);
        edges.edge("A day", "(x or y 1 more or less) that are SEA", DayEdges::besideLand);
        edges.edge("A day", "and 4 times its chance, divided by 10", DayEdges::smallChances);
        edges.edge("A day", "to which its current leads, if it leads somewhere (which has a tenth as well)",
                DayEdges::ledSomewhere);
        edges.edge("A day", "what is left stays; of what all cells had ahead of this, all at once",
                DayEdges::chancesAtOnce);
    }

    private static void from0(Check check) {
        check.due("at first", 0, new GyreWatch().day());
        check.due("the first that passes", 1, new GyreWatch().pass(1));
    }

    private static void order(Check check) {
        GyreWatch x = new GyreWatch();
        x.current(0, 1);
        x.sun(0, 50);
        x.lay(0, 1, 9, 0);
        x.station(1, 1);
        x.pass(1);
        check.due("a tenth of what was without the sun", 950, x.ofLayer(0, GyreWatch.UPPER, 0));
        check.due("the float reads after currents and sun", 1150, x.ofReading(0, 2));
        check.due("the float reads ahead of the ship", GyreWatch.NONE, x.ofReading(1, 5));
        GyreWatch cold = new GyreWatch();
        cold.sun(0, -50);
        cold.lay(3, 14, 1, 0);
        cold.station(14, 4);
        cold.pass(14);
        check.due("turned over by the same day's sun", 350, cold.ofLayer(3, GyreWatch.UPPER, 0));
        check.due("the float reads what turned over", 350, cold.ofReading(0, 2));
        check.due("the ship reads what turned over", 350, cold.ofReading(1, 2));
        GyreWatch salty = new GyreWatch();
        salty.sun(0, -50);
        salty.pass(13);
        salty.sun(0, 0);
        salty.current(0, 1);
        salty.pass(1);
        check.due("turned over by the same day's current", (350 + 35 + 400) / 2, salty.ofLayer(1, GyreWatch.UPPER, 0));
    }

    private static void oneMore(Check check) {
        GyreWatch x = new GyreWatch();
        x.lay(0, 1, 2, 0);
        x.station(1, 1);
        x.storm(2, 2);
        x.station(2, 1);
        x.pass(2);
        check.due("of the first day, by a float", 1, x.ofReading(0, 0));
        check.due("of the first day, by a ship", 1, x.ofReading(1, 0));
        check.due("of the second day", 2, x.ofReading(2, 0));
        check.due("the storm is on the second day", 3, x.readings());
        GyreWatch last = new GyreWatch();
        last.station(1000, 59);
        Builds.to(last, 999);
        check.due("none on the day 999", 0, last.readings());
        last.pass(1);
        check.due("of the last day", 1000, last.ofReading(0, 0));
    }

    private static void lessThanATenth(Check check) {
        GyreWatch x = Builds.drained();
        check.due("9 HEAT are left", 9, x.ofLayer(0, GyreWatch.UPPER, 0));
        check.due("9 SALT are left", 9, x.ofLayer(0, GyreWatch.UPPER, 1));
        x.current(0, 1);
        x.sun(0, 1);
        x.pass(1);
        check.due("9 give none", 10, x.ofLayer(0, GyreWatch.UPPER, 0));
        x.sun(0, 0);
        x.pass(1);
        check.due("10 give 1", 9, x.ofLayer(0, GyreWatch.UPPER, 0));
        check.due("9 SALT give none", 9, x.ofLayer(0, GyreWatch.UPPER, 1));
        check.due("kept", 84000 + 10, x.total(0));
    }

    private static void allAtOnce(Check check) {
        GyreWatch x = new GyreWatch();
        x.current(0, 1);
        x.current(1, 2);
        x.current(59, 2);
        x.current(58, 2);
        x.pass(1);
        check.due("back and forth", 1000, x.ofLayer(0, GyreWatch.UPPER, 0));
        check.due("forth and back", 1000, x.ofLayer(1, GyreWatch.UPPER, 0));
        check.due("the first of a chain", 900, x.ofLayer(59, GyreWatch.UPPER, 0));
        check.due("the midst of a chain", 1000, x.ofLayer(58, GyreWatch.UPPER, 0));
        check.due("the end of a chain", 1100, x.ofLayer(57, GyreWatch.UPPER, 0));
        check.due("its SALT", 385, x.ofLayer(57, GyreWatch.UPPER, 1));
        GyreWatch all = new GyreWatch();
        int[] around = {24, 26, 15, 35};
        for (int i = 0; i < 4; i++) {
            all.current(around[i], i + 1);
        }
        all.pass(1);
        check.due("four give to one", 1400, all.ofLayer(25, GyreWatch.UPPER, 0));
        check.due("of SALT too", 350 + 4 * 35, all.ofLayer(25, GyreWatch.UPPER, 1));
    }

    private static void atLeast0(Check check) {
        int[] suns = {-8, -9, -10, -50};
        int[] left = {1, 0, 0, 0};
        for (int i = 0; i < suns.length; i++) {
            GyreWatch x = Builds.drained();
            x.sun(0, suns[i]);
            x.pass(1);
            check.due("9 HEAT by " + suns[i], left[i], x.ofLayer(0, GyreWatch.UPPER, 0));
            x.sun(0, 1);
            x.pass(1);
            check.due("and 1 more then", left[i] + 1, x.ofLayer(0, GyreWatch.UPPER, 0));
        }
    }

    /** The cell 0 has 9 HEAT, the nine others of its row have plenty. */
    private static void giftOfLittle(Check check) {
        GyreWatch x = Builds.drained();
        x.sun(0, -10);
        x.pass(1);
        check.due("9 less and not 10", -9 - 9 * 10, x.total(2));
        x.pass(1);
        check.due("none less", -9 - 9 * 20, x.total(2));
        x.sun(0, 4);
        x.pass(1);
        check.due("4 more", -9 - 9 * 20 + 10 * 4, x.total(2));
        check.due("kept but for the gift", 84000 + x.total(2), x.total(0));
        GyreWatch none = new GyreWatch();
        none.pass(50);
        check.due("no sun, no gift", 0, none.total(2));
    }

    private static void weighsMore(Check check) {
        GyreWatch x = new GyreWatch();
        x.sun(0, -50);
        x.pass(13);
        check.due("as much", x.ofLayer(0, GyreWatch.LOWER, 2), x.ofLayer(0, GyreWatch.UPPER, 2));
        check.due("as much does not turn over", 350, x.ofLayer(0, GyreWatch.UPPER, 0));
        x.sun(0, 0);
        x.pass(1);
        check.due("nor on a later day", 350, x.ofLayer(0, GyreWatch.UPPER, 0));
        x.sun(0, -1);
        x.pass(1);
        check.due("1 more turns over", 374, x.ofLayer(0, GyreWatch.UPPER, 0));
    }

    private static void oddHeat(Check check) {
        GyreWatch x = new GyreWatch();
        x.sun(0, -50);
        x.pass(13);
        x.sun(0, -1);
        x.pass(1);
        check.due("749 by 2", 374, x.ofLayer(0, GyreWatch.UPPER, 0));
        check.due("the rest", 375, x.ofLayer(0, GyreWatch.LOWER, 0));
        check.due("SALT by 2", 355, x.ofLayer(0, GyreWatch.UPPER, 1));
        check.due("as much SALT", 355, x.ofLayer(0, GyreWatch.LOWER, 1));
    }

    private static void oddSalt(Check check) {
        GyreWatch x = new GyreWatch();
        x.current(0, 1);
        x.pass(1);
        x.current(0, 0);
        x.sun(0, -50);
        x.pass(15);
        check.due("675 by 2", 337, x.ofLayer(0, GyreWatch.UPPER, 1));
        check.due("the rest", 338, x.ofLayer(0, GyreWatch.LOWER, 1));
        check.due("HEAT by 2", 275, x.ofLayer(0, GyreWatch.UPPER, 0));
        check.due("as much HEAT", 275, x.ofLayer(0, GyreWatch.LOWER, 0));
    }

    private static void risingNumbers(Check check) {
        GyreWatch x = new GyreWatch();
        for (int i = 0; i < 8; i++) {
            x.lay(59 - 7 * i, 1, 100, i);
        }
        x.pass(13);
        for (int i = 0; i < 100; i++) {
            check.due("the reading " + i, i % 8, x.ofReading(i, 5));
        }
    }

    private static void notDead(Check check) {
        GyreWatch x = new GyreWatch();
        x.current(5, 1);
        x.current(6, 1);
        x.lay(5, 1, 1, 0);
        x.pass(1);
        x.pass(50);
        int[] due = {6, 0, 0, 0, 1};
        for (int what = 0; what < due.length; what++) {
            check.due("DEAD for 50 days, " + what, due[what], x.ofFloat(0, what));
        }
        check.due("reads no more", 1, x.readings());
    }

    private static void rises(Check check) {
        GyreWatch x = new GyreWatch();
        x.lay(0, 1, 100, 0);
        x.lay(1, 20, 100, 0);
        x.pass(1);
        check.due("parks 1, reads on the first day", 1, x.ofFloat(0, 4));
        check.due("parks 20, 19 left", 19, x.ofFloat(1, 1));
        x.pass(18);
        check.due("1 left", 1, x.ofFloat(1, 1));
        check.due("not yet", 0, x.ofFloat(1, 4));
        x.pass(1);
        check.due("reads on the day 20", 1, x.ofFloat(1, 4));
        check.due("20 left again", 20, x.ofFloat(1, 1));
        check.due("the other read each day", 20, x.ofFloat(0, 4));
    }

    private static void stays(Check check) {
        GyreWatch x = new GyreWatch();
        x.land(25);
        x.current(24, 1);
        x.current(59, 3);
        x.lay(24, 2, 9, 0);
        x.lay(59, 2, 9, 0);
        x.lay(33, 2, 9, 0);
        x.pass(2);
        int[] due = {24, 59, 33};
        for (int i = 0; i < due.length; i++) {
            check.due("stays, " + i, due[i], x.ofFloat(i, 0));
            check.due("reads there, " + i, due[i], x.ofReading(i, 1));
            check.due("battery, " + i, 8, x.ofFloat(i, 2));
            check.due("parks again, " + i, 2, x.ofFloat(i, 1));
        }
    }

    private static void readsThere(Check check) {
        GyreWatch x = new GyreWatch();
        x.current(9, 3);
        x.lay(9, 1, 9, 7);
        x.pass(1);
        check.due("where it came", 19, x.ofReading(0, 1));
        check.due("what is there", 1107, x.ofReading(0, 2));
        x.current(9, 0);
        x.current(19, 2);
        x.pass(1);
        check.due("by the current of its own cell", 18, x.ofReading(1, 1));
        check.due("and what is there then", 1000 + 110 + 7, x.ofReading(1, 2));
    }

    private static void notKept(Check check) {
        GyreWatch x = new GyreWatch();
        Builds.hundredReadings(x);
        check.due("of one whose reading was kept", 87, x.ofFloat(3, 2));
        check.due("of one whose reading was not", 87, x.ofFloat(4, 2));
        check.due("it has one kept less", 12, x.ofFloat(4, 4));
        x.pass(50);
        x.pass(36);
        check.due("the last of the battery", 1, x.ofFloat(7, 2));
        check.due("not DEAD", 1, x.ofFloat(7, 1));
        x.pass(1);
        check.due("no battery", 0, x.ofFloat(7, 2));
        check.due("DEAD", 0, x.ofFloat(7, 1));
        check.due("none kept anew", 100, x.readings());
    }

    private static void dead(Check check) {
        GyreWatch x = new GyreWatch();
        x.lay(0, 3, 1, 0);
        x.lay(1, 3, 2, 0);
        x.pass(3);
        check.due("DEAD by its only reading", 0, x.ofFloat(0, 1));
        check.due("which it made", 1, x.ofFloat(0, 4));
        check.due("a battery of 1 is not DEAD", 3, x.ofFloat(1, 1));
        x.pass(3);
        check.due("DEAD by its second", 0, x.ofFloat(1, 1));
    }

    private static void parksAgain(Check check) {
        GyreWatch x = new GyreWatch();
        x.lay(0, 20, 100, 0);
        x.lay(1, 1, 100, 0);
        x.pass(20);
        check.due("20 again", 20, x.ofFloat(0, 1));
        check.due("1 again", 1, x.ofFloat(1, 1));
        x.pass(19);
        check.due("none read anew", 1, x.ofFloat(0, 4));
        x.pass(1);
        check.due("read anew", 2, x.ofFloat(0, 4));
    }

    private static void beside(Check check) {
        for (int begun = 0; begun < 60; begun++) {
            GyreWatch x = new GyreWatch();
            x.search(begun);
            x.pass(1);
            int given = 0;
            for (int cell = 0; cell < 60; cell++) {
                int far = Math.abs(cell % 10 - begun % 10) + Math.abs(cell / 10 - begun / 10);
                given += far == 1 ? 1000 : 0;
                if (far > 0) {
                    check.due(begun + " gives to " + cell, far == 1 ? 1000 : 0, x.chance(0, cell));
                }
            }
            check.due("what is left in " + begun, 10000 - given, x.chance(0, begun));
        }
    }

    private static void besideLand(Check check) {
        GyreWatch x = new GyreWatch();
        int[] around = {24, 26, 15, 35};
        for (int i = 0; i < 4; i++) {
            x.land(around[i]);
        }
        x.current(25, 1);
        x.search(25);
        x.search(14);
        x.pass(1);
        check.due("LAND all round: all stays", 10000, x.chance(0, 25));
        check.due("none on LAND", 0, x.chance(0, 26));
        check.due("two beside are LAND", 8000, x.chance(1, 14));
        check.due("not beyond them", 0, x.chance(1, 25));
        x.pass(50);
        check.due("and for good", 10000, x.chance(0, 25));
    }

    /** A chance is made small by legs: two that leave a hundred, then so many. */
    private static void smallChances(Check check) {
        int[] chances = {1, 2, 3, 5, 9, 10, 19};
        int[] led = {0, 0, 1, 2, 3, 4 + 1, 7 + 1};
        int[] tenths = {0, 0, 0, 0, 0, 1, 1};
        for (int i = 0; i < chances.length; i++) {
            GyreWatch x = new GyreWatch();
            x.search(0);
            x.leg(0, 0, 99);
            x.leg(0, 0, 100 - chances[i]);
            x.current(0, 1);
            x.pass(1);
            check.due(chances[i] + " by the current", led[i], x.chance(0, 1));
            check.due(chances[i] + " beside", tenths[i], x.chance(0, 10));
            check.due(chances[i] + " stays", chances[i] - led[i] - tenths[i], x.chance(0, 0));
        }
    }

    private static void ledSomewhere(Check check) {
        GyreWatch x = new GyreWatch();
        x.land(1);
        x.current(0, 1);
        x.current(9, 1);
        x.current(50, 4);
        x.search(0);
        x.search(9);
        x.search(50);
        x.search(33);
        x.pass(1);
        check.due("led to LAND, one beside", 9000, x.chance(0, 0));
        check.due("led beyond the sea, two beside", 8000, x.chance(1, 9));
        check.due("not round the edge", 0, x.chance(1, 10));
        check.due("led somewhere, two beside", 4000, x.chance(2, 50));
        check.due("a tenth as well", 5000, x.chance(2, 40));
        check.due("the other a tenth alone", 1000, x.chance(2, 51));
        check.due("not led, four beside", 6000, x.chance(3, 33));
    }

    private static void chancesAtOnce(Check check) {
        GyreWatch x = new GyreWatch();
        x.current(0, 1);
        x.search(0);
        x.pass(2);
        int[] cells = {0, 1, 2, 11, 10, 20};
        int[] due = {2200, 5500, 500, 600, 1100, 100};
        for (int i = 0; i < cells.length; i++) {
            check.due("after two days in " + cells[i], due[i], x.chance(0, cells[i]));
        }
        x.pass(48);
        int sum = 0;
        for (int cell = 0; cell < 60; cell++) {
            sum += x.chance(0, cell);
        }
        check.due("none is lost", 10000, sum);
    }

    private static void stationsOfThisDay(Check check) {
        GyreWatch x = new GyreWatch();
        x.station(1, 4);
        x.station(2, 3);
        x.station(3, 2);
        for (int day = 1; day <= 3; day++) {
            x.pass(1);
            check.due("readings by the day " + day, day, x.readings());
            check.due("that of the day " + day, 5 - day, x.ofReading(day - 1, 1));
        }
    }

    private static void risingCells(Check check) {
        GyreWatch x = new GyreWatch();
        for (int i = 0; i < 30; i++) {
            x.station(7, 59 - 2 * i);
        }
        x.pass(7);
        check.due("all thirty", 30, x.readings());
        for (int i = 0; i < 30; i++) {
            check.due("the reading " + i, 1 + 2 * i, x.ofReading(i, 1));
        }
    }

    private static void unlessStorm(Check check) {
        GyreWatch x = new GyreWatch();
        for (int day = 1; day <= 5; day++) {
            x.station(day, 5);
        }
        x.storm(2, 4);
        x.lay(6, 3, 1, 0);
        x.pass(5);
        int[] days = {1, 3, 5};
        check.due("the days ahead and behind, and a float", 3, x.readings());
        for (int i = 0; i < days.length; i++) {
            check.due("the reading " + i, days[i], x.ofReading(i, 0));
        }
        check.due("the float reads in a storm", 0, x.ofReading(1, 5));
    }
}

/** Searches, legs and plans; promises 12, 13 and 25 to 27. */
final class SearchEdges {
    private SearchEdges() {
    }

    static void tell(Edges edges) {
        tellTerms(edges);
        tellSearchAndLeg(edges);
        tellChanceAndBest(edges);
        tellPlan(edges);
    }

    private static void tellTerms(Edges edges) {
        edges.edge("Searches", "Searches are numbered from 0, at most 4", SearchEdges::atMost4);
        edges.edge("Searches", "a search begins with a chance of 10000 in a SEA cell", SearchEdges::begins);
        edges.edge("Searches", "the chance there is less by itself times that, divided by 100", SearchEdges::less);
        edges.edge("Searches", "The best cell of a search is that with the greatest chance", SearchEdges::greatest);
        edges.edge("Searches", "of several the lowest", SearchEdges::lowest);
        edges.edge("Searches", "A plan of so many legs, one behind the other on the same day", SearchEdges::sameDay);
        edges.edge("Searches", "each at the best cell by then, with the same hundredths", SearchEdges::bestByThen);
        edges.edge("Searches", "tells how much less the chances would be by all of them", SearchEdges::wouldBe);
    }

    private static void tellSearchAndLeg(Edges edges) {
        edges.plain("12", "Begins a search.");
        edges.edge("12", "`cell`: 0 to 59", check -> check.within(0, 59, Builds::nothing, GyreWatch::search));
        edges.edge("12", "Returns its number.", SearchEdges::numbers);
        edges.edge("12", "`IndexOutOfBoundsException` if there is no such cell",
                check -> check.beyond(Check.INDEX, 0, 59, Builds::busy, GyreWatch::search));
        edges.edge("12", "`IllegalStateException` if the cell is LAND", SearchEdges::searchOnLand);
        edges.edge("12", "or there are 4", SearchEdges::searchOf5);
        edges.plain("13", "Flies a leg that finds nothing.");
        edges.edge("13", "`search`: its number",
                check -> check.within(0, 3, Builds::fourSearches, (x, search) -> x.leg(search, 0, 1)));
        edges.edge("13", "`cell`: 0 to 59", check -> check.within(0, 59, Builds::oneSearch, (x, c) -> x.leg(0, c, 1)));
        edges.edge("13", "`hundredths`: 1 to 100", SearchEdges::hundredths);
        edges.edge("13", "Returns how much less the chance is.", SearchEdges::lessReturned);
        edges.edge("13", "`IndexOutOfBoundsException` if there is no such search or cell", SearchEdges::legOfNone);
        edges.edge("13", "`IllegalArgumentException` if hundredths is out of range",
                check -> check.beyond(Check.ARGUMENT, 1, 100, Builds::busy, (x, part) -> x.leg(0, 0, part)));
    }

    private static void tellChanceAndBest(Edges edges) {
        edges.plain("25", "Returns the chance of a search in a cell.");
        edges.edge("25", "`search`: its number",
                check -> check.within(0, 3, Builds::fourSearches, (x, search) -> x.chance(search, 0)));
        edges.edge("25", "`cell`: 0 to 59", check -> check.within(0, 59, Builds::oneSearch, (x, c) -> x.chance(0, c)));
        edges.edge("25", "Returns the chance.", SearchEdges::allAndNothing);
        edges.edge("25", "`IndexOutOfBoundsException` if there is no such search or cell", SearchEdges::chanceOfNone);
        edges.plain("26", "Returns the best cell of a search.");
        edges.edge("26", "`search`: its number",
                check -> check.within(0, 3, Builds::fourSearches, GyreWatch::best));
        edges.edge("26", "Returns the cell.", SearchEdges::bestOfNothing);
        edges.edge("26", "`IndexOutOfBoundsException` if there is no such search",
                check -> noSuchSearch(check, GyreWatch::best));
    }

    private static void tellPlan(Edges edges) {
        edges.plain("27", "Returns what a plan of legs tells.");
        edges.edge("27", "`search`: its number",
                check -> check.within(0, 3, Builds::fourSearches, (x, search) -> x.plan(search, 1, 1)));
        edges.edge("27", "`legs`: 1 to 20", SearchEdges::fewAndManyLegs);
        edges.edge("27", "`hundredths`: 1 to 100", SearchEdges::planHundredths);
        edges.edge("27", "Returns how much less the chances would be, together.", SearchEdges::planOfNothing);
        edges.edge("27", "`IndexOutOfBoundsException` if there is no such search",
                check -> noSuchSearch(check, (x, search) -> x.plan(search, 1, 1)));
        edges.edge("27", "`IllegalArgumentException` if legs or hundredths is out of range", SearchEdges::planArguments);
    }

    private static void noSuchSearch(Check check, Check.CallOf call) {
        check.index("without searches", Builds::nothing, x -> call.on(x, 0));
        check.beyond(Check.INDEX, 0, 0, Builds::oneSearch, call);
        check.beyond(Check.INDEX, 0, 3, Builds::fourSearches, call);
    }

    private static int sumOfChances(GyreWatch x, int search) {
        int sum = 0;
        for (int cell = 0; cell < 60; cell++) {
            sum += x.chance(search, cell);
        }
        return sum;
    }

    private static void atMost4(Check check) {
        GyreWatch x = new GyreWatch();
        for (int i = 0; i < 4; i++) {
            check.due("search " + i, i, x.search(5));
        }
        check.state("the fifth", Builds::fourSearches, y -> y.search(5));
        check.state("the fifth, the others without chances", y -> {
            Builds.fourSearches(y);
            for (int i = 0; i < 4; i++) {
                y.leg(i, i, 100);
            }
            y.pass(1);
        }, y -> y.search(5));
    }

    private static void begins(Check check) {
        int[] cells = {0, 9, 50, 59};
        GyreWatch x = new GyreWatch();
        for (int i = 0; i < 4; i++) {
            x.search(cells[i]);
            check.due("in " + cells[i], 10000, x.chance(i, cells[i]));
        }
        check.due("nowhere else", 10000, sumOfChances(x, 3));
        check.state("not on LAND", y -> y.land(5), y -> y.search(5));
    }

    private static void less(Check check) {
        GyreWatch x = new GyreWatch();
        x.search(0);
        check.due("9900 of 10000", 9900, x.leg(0, 0, 99));
        check.due("1 of 100", 1, x.leg(0, 0, 1));
        check.due("0 of 99", 0, x.leg(0, 0, 1));
        check.due("98 of 99", 98, x.leg(0, 0, 99));
        check.due("0 of 1", 0, x.leg(0, 0, 99));
        check.due("1 of 1", 1, x.leg(0, 0, 100));
        check.due("0 of 0", 0, x.leg(0, 0, 100));
        check.due("none is left", 0, x.chance(0, 0));
    }

    private static void greatest(Check check) {
        GyreWatch x = new GyreWatch();
        x.search(59);
        check.due("the last cell", 59, x.best(0));
        x.pass(1);
        x.leg(0, 59, 88);
        check.due("960 there is less than 1000", 49, x.best(0));
        GyreWatch more = new GyreWatch();
        more.search(59);
        more.pass(1);
        more.leg(0, 59, 87);
        check.due("1040 there is more than 1000", 59, more.best(0));
    }

    private static void lowest(Check check) {
        GyreWatch x = new GyreWatch();
        x.search(25);
        x.pass(1);
        x.leg(0, 25, 100);
        int[] due = {15, 24, 26, 35, 0};
        for (int best : due) {
            check.due("of those that are left", best, x.best(0));
            x.leg(0, best, 100);
        }
    }

    private static void sameDay(Check check) {
        GyreWatch x = new GyreWatch();
        x.search(25);
        check.due("the chances do not go on between legs", 5000 + 2500 + 1250, x.plan(0, 3, 50));
        check.due("none is beside it", 10000, x.plan(0, 2, 100));
        check.due("nor does the day", 0, x.day());
    }

    private static void bestByThen(Check check) {
        GyreWatch x = new GyreWatch();
        x.current(0, 1);
        x.search(0);
        x.pass(1);
        check.due("5000 in 1", 2500, x.plan(0, 1, 50));
        check.due("then 4000 in 0", 2500 + 2000, x.plan(0, 2, 50));
        check.due("then 2500 in 1", 2500 + 2000 + 1250, x.plan(0, 3, 50));
        check.due("then 2000 in 0", 2500 + 2000 + 1250 + 1000, x.plan(0, 4, 50));
        check.due("then 1250 in 1", 2500 + 2000 + 1250 + 1000 + 625, x.plan(0, 5, 50));
        check.due("by all of each, 1000 in 10 at last", 10000, x.plan(0, 3, 100));
    }

    private static void wouldBe(Check check) {
        check.quiet("a plan", Builds::busy, x -> x.plan(0, 20, 100));
        GyreWatch x = new GyreWatch();
        x.search(5);
        x.plan(0, 20, 100);
        check.due("the chance is as it was", 10000, x.chance(0, 5));
        int sum = 0;
        for (int i = 0; i < 5; i++) {
            sum += x.leg(0, x.best(0), 33);
        }
        GyreWatch planned = new GyreWatch();
        planned.search(5);
        check.due("as much as such legs", sum, planned.plan(0, 5, 33));
    }

    private static void numbers(Check check) {
        GyreWatch x = new GyreWatch();
        for (int i = 0; i < 4; i++) {
            check.due("number " + i, i, x.search(59 - i));
            x.pass(1);
        }
    }

    private static void searchOnLand(Check check) {
        check.state("LAND", Builds::busy, x -> x.search(44));
        check.state("all is LAND", Builds::allLand, x -> x.search(0));
    }

    private static void searchOf5(Check check) {
        check.state("the fifth", Builds::fourSearches, x -> x.search(59));
        check.taken("the fourth", x -> {
            x.search(0);
            x.search(0);
            x.search(0);
        }, x -> x.search(0));
    }

    private static void hundredths(Check check) {
        GyreWatch x = new GyreWatch();
        x.search(0);
        check.due("the least", 100, x.leg(0, 0, 1));
        check.due("the most", 9900, x.leg(0, 0, 100));
    }

    private static void lessReturned(Check check) {
        GyreWatch x = new GyreWatch();
        x.land(3);
        x.search(0);
        x.search(0);
        check.due("where no chance is", 0, x.leg(0, 59, 100));
        check.due("over LAND", 0, x.leg(0, 3, 100));
        check.due("all there is", 10000, x.leg(0, 0, 100));
        check.due("the other search is as it was", 10000, x.chance(1, 0));
    }

    private static void legOfNone(Check check) {
        noSuchSearch(check, (x, search) -> x.leg(search, 0, 1));
        check.beyond(Check.INDEX, 0, 59, Builds::busy, (x, cell) -> x.leg(0, cell, 1));
    }

    private static void allAndNothing(Check check) {
        GyreWatch x = new GyreWatch();
        x.land(3);
        x.search(59);
        check.due("all", 10000, x.chance(0, 59));
        check.due("nothing", 0, x.chance(0, 58));
        check.due("of LAND", 0, x.chance(0, 3));
    }

    private static void chanceOfNone(Check check) {
        noSuchSearch(check, (x, search) -> x.chance(search, 0));
        check.beyond(Check.INDEX, 0, 59, Builds::busy, (x, cell) -> x.chance(0, cell));
    }

    private static void bestOfNothing(Check check) {
        GyreWatch x = new GyreWatch();
        x.search(59);
        x.leg(0, 59, 100);
        check.due("of all that are 0 the lowest", 0, x.best(0));
        x.pass(1);
        check.due("and a day later", 0, x.best(0));
    }

    private static void fewAndManyLegs(Check check) {
        GyreWatch x = new GyreWatch();
        x.search(0);
        int left = 10000;
        for (int legs = 1; legs <= 20; legs++) {
            left -= left / 4;
            check.due("by " + legs, 10000 - left, x.plan(0, legs, 25));
        }
    }

    private static void planHundredths(Check check) {
        GyreWatch x = new GyreWatch();
        x.search(0);
        check.due("the least", 100, x.plan(0, 1, 1));
        check.due("the least, twice", 199, x.plan(0, 2, 1));
        check.due("the most", 10000, x.plan(0, 1, 100));
        check.due("the most, twenty times", 10000, x.plan(0, 20, 100));
    }

    private static void planOfNothing(Check check) {
        GyreWatch x = new GyreWatch();
        x.search(0);
        x.leg(0, 0, 99);
        x.leg(0, 0, 99);
        check.due("1 is too little", 0, x.plan(0, 20, 99));
        check.due("but not for all of it", 1, x.plan(0, 20, 100));
        x.leg(0, 0, 100);
        check.due("no chance", 0, x.plan(0, 20, 100));
    }

    private static void planArguments(Check check) {
        check.beyond(Check.ARGUMENT, 1, 20, Builds::busy, (x, legs) -> x.plan(0, legs, 1));
        check.beyond(Check.ARGUMENT, 1, 100, Builds::busy, (x, part) -> x.plan(0, 1, part));
        check.argument("both", Builds::busy, x -> x.plan(0, 0, 0));
    }
}

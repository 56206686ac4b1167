/** Promises 12, 13 and 25 to 27: searches. */
public final class SearchTest {
    private static final Check CHECK = new Check("SearchTest");

    private SearchTest() {
    }

    public static void main(String[] args) {
        promise12();
        promise12Refused();
        promise13();
        promise13Refused();
        promise25GoesOn();
        promise25Currents();
        promise25AllAtOnce();
        promise25Refused();
        promise26();
        promise27();
        promise27Refused();
        CHECK.end();
    }

    private static int sumOfChances(GyreWatch x, int search) {
        int sum = 0;
        for (int cell = 0; cell < 60; cell++) {
            sum += x.chance(search, cell);
        }
        return sum;
    }

    private static void promise12() {
        GyreWatch x = new GyreWatch();
        CHECK.due("12 first", 0, x.search(59));
        CHECK.due("12 the same cell", 1, x.search(59));
        x.pass(1);
        CHECK.due("12 later", 2, x.search(0));
        CHECK.due("12 fourth", 3, x.search(33));
        CHECK.due("12 its chance", 10000, x.chance(3, 33));
        CHECK.due("12 all its chances", 10000, sumOfChances(x, 3));
        CHECK.due("12 the first went on", 8000, x.chance(0, 59));
    }

    private static void promise12Refused() {
        CHECK.index("12 below", Builds::nothing, x -> x.search(-1));
        CHECK.index("12 above", Builds::nothing, x -> x.search(60));
        CHECK.state("12 LAND", x -> x.land(5), x -> x.search(5));
        CHECK.state("12 fifth", Builds::fourSearches, x -> x.search(5));
        CHECK.index("12 first of two", Builds::fourSearches, x -> x.search(60));
    }

    private static void promise13() {
        GyreWatch x = new GyreWatch();
        x.search(12);
        CHECK.due("13 a third", 3300, x.leg(0, 12, 33));
        CHECK.due("13 is less", 6700, x.chance(0, 12));
        CHECK.due("13 of what is left", 67, x.leg(0, 12, 1));
        CHECK.due("13 rounded", 66, x.leg(0, 12, 1));
        CHECK.due("13 without a chance", 0, x.leg(0, 13, 100));
        CHECK.due("13 all", 6567, x.leg(0, 12, 100));
        CHECK.due("13 none left", 0, x.chance(0, 12));
        GyreWatch two = new GyreWatch();
        two.land(3);
        two.search(12);
        two.search(12);
        CHECK.due("13 the second", 5000, two.leg(1, 12, 50));
        CHECK.due("13 not the first", 10000, two.chance(0, 12));
        CHECK.due("13 over LAND", 0, two.leg(1, 3, 50));
        two.pass(1);
        CHECK.due("13 what is less does not come again", 5000, sumOfChances(two, 1));
    }

    private static void promise13Refused() {
        CHECK.index("13 no search", Builds::nothing, x -> x.leg(0, 0, 1));
        CHECK.index("13 search below", Builds::oneSearch, x -> x.leg(-1, 0, 1));
        CHECK.index("13 search above", Builds::oneSearch, x -> x.leg(1, 0, 1));
        CHECK.index("13 search far above", Builds::oneSearch, x -> x.leg(4, 0, 1));
        CHECK.index("13 cell below", Builds::oneSearch, x -> x.leg(0, -1, 1));
        CHECK.index("13 cell above", Builds::oneSearch, x -> x.leg(0, 60, 1));
        CHECK.index("13 first of two", Builds::oneSearch, x -> x.leg(0, 60, 0));
        CHECK.argument("13 hundredths below", Builds::oneSearch, x -> x.leg(0, 0, 0));
        CHECK.argument("13 hundredths above", Builds::oneSearch, x -> x.leg(0, 0, 101));
    }

    private static void promise25GoesOn() {
        GyreWatch x = new GyreWatch();
        x.land(23);
        x.search(22);
        x.pass(1);
        CHECK.due("25 stays", 7000, x.chance(0, 22));
        CHECK.due("25 x less", 1000, x.chance(0, 21));
        CHECK.due("25 y less", 1000, x.chance(0, 12));
        CHECK.due("25 y more", 1000, x.chance(0, 32));
        CHECK.due("25 not to LAND", 0, x.chance(0, 23));
        x.pass(1);
        CHECK.due("25 not beyond LAND", 0, x.chance(0, 24));
        CHECK.due("25 back and forth", 4900 + 300, x.chance(0, 22));
        CHECK.due("25 kept", 10000, sumOfChances(x, 0));
        GyreWatch edge = new GyreWatch();
        edge.search(9);
        edge.search(50);
        edge.search(10);
        edge.pass(1);
        CHECK.due("25 corner", 8000, edge.chance(0, 9));
        CHECK.due("25 not round the edge", 0, edge.chance(0, 10));
        CHECK.due("25 other corner", 8000, edge.chance(1, 50));
        CHECK.due("25 not round the other edge", 0, edge.chance(1, 49));
        CHECK.due("25 side", 7000, edge.chance(2, 10));
        CHECK.due("25 not round the side", 0, edge.chance(2, 9));
    }

    private static void promise25Currents() {
        int[] there = {0, 26, 24, 35, 15};
        for (int current = 1; current <= 4; current++) {
            GyreWatch x = new GyreWatch();
            x.current(25, current);
            x.search(25);
            x.pass(1);
            CHECK.due("25 stays by " + current, 2000, x.chance(0, 25));
            CHECK.due("25 is led by " + current, 5000, x.chance(0, there[current]));
            CHECK.due("25 kept by " + current, 10000, sumOfChances(x, 0));
        }
        GyreWatch nowhere = new GyreWatch();
        nowhere.land(1);
        nowhere.current(0, 1);
        nowhere.current(59, 3);
        nowhere.search(0);
        nowhere.search(59);
        nowhere.pass(1);
        CHECK.due("25 led to LAND", 9000, nowhere.chance(0, 0));
        CHECK.due("25 led beyond the sea", 8000, nowhere.chance(1, 59));
        GyreWatch rounded = new GyreWatch();
        rounded.search(0);
        rounded.leg(0, 0, 99);
        rounded.leg(0, 0, 1);
        rounded.current(0, 3);
        rounded.pass(1);
        CHECK.due("25 99 gives 39 and 9", 48, rounded.chance(0, 10));
        CHECK.due("25 99 gives 9", 9, rounded.chance(0, 1));
        CHECK.due("25 99 keeps", 42, rounded.chance(0, 0));
    }

    private static void promise25AllAtOnce() {
        GyreWatch x = new GyreWatch();
        x.current(0, 1);
        x.search(0);
        x.pass(2);
        CHECK.due("25 of 4000 and 5000", 4000 - 2400 + 500 + 100, x.chance(0, 0));
        CHECK.due("25 led and back", 5000 - 1500 + 400 + 1600, x.chance(0, 1));
        CHECK.due("25 no further than two", 500, x.chance(0, 2));
        CHECK.due("25 not by the day's own", 500 + 100, x.chance(0, 11));
        GyreWatch later = new GyreWatch();
        later.search(0);
        later.pass(1);
        later.current(0, 1);
        later.search(0);
        later.pass(1);
        CHECK.due("25 a later one by the current", 5000, later.chance(1, 1));
    }

    private static void promise25Refused() {
        CHECK.index("25 no search", Builds::nothing, x -> x.chance(0, 0));
        CHECK.index("25 search below", Builds::oneSearch, x -> x.chance(-1, 0));
        CHECK.index("25 search above", Builds::oneSearch, x -> x.chance(1, 0));
        CHECK.index("25 search far above", Builds::fourSearches, x -> x.chance(4, 0));
        CHECK.index("25 cell below", Builds::oneSearch, x -> x.chance(0, -1));
        CHECK.index("25 cell above", Builds::oneSearch, x -> x.chance(0, 60));
    }

    private static void promise26() {
        GyreWatch x = new GyreWatch();
        x.search(59);
        CHECK.due("26 where it begins", 59, x.best(0));
        x.leg(0, 59, 100);
        CHECK.due("26 of none the lowest", 0, x.best(0));
        GyreWatch same = new GyreWatch();
        same.search(22);
        same.pass(1);
        same.leg(0, 22, 100);
        CHECK.due("26 of four the lowest", 12, same.best(0));
        same.leg(0, 12, 1);
        CHECK.due("26 of three the lowest", 21, same.best(0));
        same.leg(0, 21, 50);
        CHECK.due("26 of two the lowest", 23, same.best(0));
        CHECK.index("26 no search", Builds::nothing, y -> y.best(0));
        CHECK.index("26 below", Builds::oneSearch, y -> y.best(-1));
        CHECK.index("26 above", Builds::oneSearch, y -> y.best(1));
        CHECK.index("26 far above", Builds::fourSearches, y -> y.best(4));
    }

    private static void promise27() {
        GyreWatch x = new GyreWatch();
        x.search(0);
        CHECK.due("27 one leg", 5000, x.plan(0, 1, 50));
        CHECK.due("27 two legs in a cell", 7500, x.plan(0, 2, 50));
        CHECK.due("27 three, rounded", 3300 + 2211 + 1481, x.plan(0, 3, 33));
        CHECK.due("27 all, and no more", 10000, x.plan(0, 20, 100));
        CHECK.due("27 changes nothing", 10000, x.chance(0, 0));
        x.current(0, 1);
        x.pass(1);
        CHECK.due("27 the best by then", 2500 + 2000, x.plan(0, 2, 50));
        CHECK.due("27 and then", 2500 + 2000 + 1250, x.plan(0, 3, 50));
        CHECK.due("27 the best cells", 9000, x.plan(0, 2, 100));
        CHECK.due("27 the best is as it was", 1, x.best(0));
        x.pass(1);
        x.search(44);
        CHECK.due("27 of another search", 100, x.plan(1, 1, 1));
        x.pass(1);
        CHECK.due("27 goes on as without it", 10000, sumOfChances(x, 0));
    }

    private static void promise27Refused() {
        CHECK.index("27 no search", Builds::nothing, x -> x.plan(0, 1, 1));
        CHECK.index("27 search below", Builds::oneSearch, x -> x.plan(-1, 1, 1));
        CHECK.index("27 search above", Builds::oneSearch, x -> x.plan(1, 1, 1));
        CHECK.index("27 search far above", Builds::fourSearches, x -> x.plan(4, 1, 1));
        CHECK.index("27 first of two", Builds::oneSearch, x -> x.plan(1, 0, 0));
        CHECK.argument("27 legs below", Builds::oneSearch, x -> x.plan(0, 0, 1));
        CHECK.argument("27 legs above", Builds::oneSearch, x -> x.plan(0, 21, 1));
        CHECK.argument("27 hundredths below", Builds::oneSearch, x -> x.plan(0, 1, 0));
        CHECK.argument("27 hundredths above", Builds::oneSearch, x -> x.plan(0, 1, 101));
    }
}

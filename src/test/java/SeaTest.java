/** Promises 1 to 5 and 15 to 17: the sea and its days. */
public final class SeaTest {
    private static final Check CHECK = new Check("SeaTest");

    private SeaTest() {
    }

    public static void main(String[] args) {
        promise1();
        promise2();
        promise2Refused();
        promise3();
        promise3AllAtOnce();
        promise3Rounded();
        promise3LeadsNowhere();
        promise3Refused();
        promise4();
        promise4NotBelowZero();
        promise4Refused();
        promise5();
        promise5TurnsOver();
        promise5TurnsOverOdd();
        promise5InItsOrder();
        promise5Refused();
        promise15();
        promise16();
        promise17();
        CHECK.end();
    }

    private static void promise1() {
        GyreWatch x = new GyreWatch();
        CHECK.due("1 day", 0, x.day());
        CHECK.due("1 HEAT", 84000, x.total(0));
        CHECK.due("1 SALT", 42600, x.total(1));
        CHECK.due("1 gift", 0, x.total(2));
        CHECK.due("1 stations", 0, x.stations());
        CHECK.due("1 readings", 0, x.readings());
        for (int cell = 0; cell < 60; cell++) {
            CHECK.due("1 UPPER HEAT of " + cell, 1000, x.ofLayer(cell, GyreWatch.UPPER, 0));
            CHECK.due("1 LOWER SALT of " + cell, 360, x.ofLayer(cell, GyreWatch.LOWER, 1));
            CHECK.due("1 current of " + cell, 0, x.current(cell, 0));
        }
        for (int y = 0; y < 6; y++) {
            CHECK.due("1 sun of " + y, 0, x.sun(y, 0));
        }
        CHECK.due("1 bound", 100, x.bound(100));
        CHECK.due("1 tide", 0, x.tide(9));
        CHECK.due("1 LAND", 1, x.land(0));
        CHECK.index("1 no float", Builds::nothing, y -> y.ofFloat(0, 0));
        CHECK.index("1 no reading", Builds::nothing, y -> y.ofReading(0, 0));
        CHECK.index("1 no search", Builds::nothing, y -> y.best(0));
    }

    private static void promise2() {
        GyreWatch x = new GyreWatch();
        CHECK.due("2 first", 1, x.land(0));
        CHECK.due("2 second", 2, x.land(59));
        CHECK.due("2 third", 3, x.land(7));
        CHECK.due("2 HEAT without", 84000 - 3 * 1400, x.total(0));
        CHECK.due("2 SALT without", 42600 - 3 * 710, x.total(1));
        CHECK.due("2 no UPPER HEAT", 0, x.ofLayer(7, GyreWatch.UPPER, 0));
        CHECK.due("2 no LOWER weight", 0, x.ofLayer(7, GyreWatch.LOWER, 2));
        x.sun(0, 50);
        x.pass(1);
        CHECK.due("2 no sun on LAND", 0, x.ofLayer(7, GyreWatch.UPPER, 0));
        CHECK.due("2 no gift to LAND", 8 * 50, x.total(2));
        GyreWatch all = new GyreWatch();
        for (int cell = 0; cell < 60; cell++) {
            CHECK.due("2 LAND " + cell, cell + 1, all.land(cell));
        }
        CHECK.due("2 all LAND, a day", 1, all.pass(1));
        CHECK.due("2 all LAND, HEAT", 0, all.total(0));
    }

    private static void promise2Refused() {
        CHECK.index("2 below", Builds::nothing, x -> x.land(-1));
        CHECK.index("2 above", Builds::nothing, x -> x.land(60));
        CHECK.index("2 first of two", Builds::oneDay, x -> x.land(60));
        CHECK.state("2 twice", x -> x.land(5), x -> x.land(5));
        CHECK.state("2 not day 0", Builds::oneDay, x -> x.land(5));
        CHECK.state("2 float", x -> x.lay(5, 1, 1, 0), x -> x.land(5));
        CHECK.state("2 second float", x -> {
            x.lay(4, 1, 1, 0);
            x.lay(5, 1, 1, 0);
        }, x -> x.land(5));
        CHECK.state("2 station", x -> x.station(9, 5), x -> x.land(5));
        CHECK.state("2 station in a storm", x -> {
            x.storm(9, 9);
            x.station(9, 5);
        }, x -> x.land(5));
        CHECK.state("2 search", x -> x.search(5), x -> x.land(5));
        CHECK.state("2 search without a chance there", x -> {
            x.search(5);
            x.leg(0, 5, 100);
        }, x -> x.land(5));
        GyreWatch beside = new GyreWatch();
        beside.lay(4, 1, 1, 0);
        beside.station(9, 14);
        beside.search(6);
        CHECK.due("2 beside all these", 1, beside.land(5));
    }

    private static void promise3() {
        int[] there = {25, 26, 24, 35, 15};
        for (int current = 0; current <= 4; current++) {
            GyreWatch x = new GyreWatch();
            CHECK.due("3 at first", 0, x.current(25, current));
            x.pass(1);
            int given = current == 0 ? 0 : 100;
            CHECK.due("3 gives " + current, 1000 - given, x.ofLayer(25, GyreWatch.UPPER, 0));
            CHECK.due("3 takes " + current, 1000 + given, x.ofLayer(there[current], GyreWatch.UPPER, 0));
            CHECK.due("3 takes SALT " + current, 350 + given * 35 / 100, x.ofLayer(there[current], GyreWatch.UPPER, 1));
            CHECK.due("3 not the LOWER " + current, 400, x.ofLayer(there[current], GyreWatch.LOWER, 0));
            CHECK.due("3 kept " + current, 84000, x.total(0));
            CHECK.due("3 kept SALT " + current, 42600, x.total(1));
            CHECK.due("3 what it was", current, x.current(25, 0));
            CHECK.due("3 what it was then", 0, x.current(25, 4));
        }
    }

    private static void promise3AllAtOnce() {
        GyreWatch x = new GyreWatch();
        x.current(0, 1);
        x.current(1, 1);
        x.pass(2);
        CHECK.due("3 chain, first", 810, x.ofLayer(0, GyreWatch.UPPER, 0));
        CHECK.due("3 chain, second", 1000 - 100 + 90, x.ofLayer(1, GyreWatch.UPPER, 0));
        CHECK.due("3 chain, third", 1100 + 100, x.ofLayer(2, GyreWatch.UPPER, 0));
        GyreWatch back = new GyreWatch();
        back.current(12, 2);
        back.current(11, 2);
        back.pass(1);
        CHECK.due("3 chain back, second", 1000, back.ofLayer(11, GyreWatch.UPPER, 0));
        CHECK.due("3 chain back, third", 1100, back.ofLayer(10, GyreWatch.UPPER, 0));
        GyreWatch ring = new GyreWatch();
        ring.current(0, 1);
        ring.current(1, 2);
        ring.current(10, 4);
        ring.pass(1);
        CHECK.due("3 ring, two come", 1100, ring.ofLayer(0, GyreWatch.UPPER, 0));
        CHECK.due("3 ring, one comes", 1000, ring.ofLayer(1, GyreWatch.UPPER, 0));
    }

    private static void promise3Rounded() {
        GyreWatch x = new GyreWatch();
        x.current(0, 1);
        x.pass(2);
        CHECK.due("3 SALT 315 gives 31", 284, x.ofLayer(0, GyreWatch.UPPER, 1));
        CHECK.due("3 SALT takes 31", 416, x.ofLayer(1, GyreWatch.UPPER, 1));
    }

    private static void promise3LeadsNowhere() {
        int[] cells = {9, 50, 59, 0, 3, 30, 55, 29, 40};
        int[] currents = {1, 3, 1, 2, 4, 2, 3, 1, 2};
        GyreWatch x = new GyreWatch();
        x.land(44);
        x.current(43, 1);
        x.current(45, 2);
        x.current(34, 3);
        x.current(54, 4);
        for (int i = 0; i < cells.length; i++) {
            x.current(cells[i], currents[i]);
        }
        CHECK.due("3 LAND has a current", 0, x.current(44, 1));
        x.pass(3);
        for (int cell = 0; cell < 60; cell++) {
            CHECK.due("3 nowhere from " + cell, cell == 44 ? 0 : 1000, x.ofLayer(cell, GyreWatch.UPPER, 0));
        }
        CHECK.due("3 LAND's current", 1, x.current(44, 0));
    }

    private static void promise3Refused() {
        CHECK.index("3 below", Builds::nothing, x -> x.current(-1, 0));
        CHECK.index("3 above", Builds::nothing, x -> x.current(60, 0));
        CHECK.index("3 first of two", Builds::nothing, x -> x.current(60, 5));
        CHECK.argument("3 current below", Builds::nothing, x -> x.current(5, -1));
        CHECK.argument("3 current above", Builds::nothing, x -> x.current(5, 5));
    }

    private static void promise4() {
        GyreWatch x = new GyreWatch();
        CHECK.due("4 at first", 0, x.sun(0, 50));
        CHECK.due("4 of the last", 0, x.sun(5, -50));
        x.pass(1);
        CHECK.due("4 more", 1050, x.ofLayer(9, GyreWatch.UPPER, 0));
        CHECK.due("4 the next y", 1000, x.ofLayer(10, GyreWatch.UPPER, 0));
        CHECK.due("4 less", 950, x.ofLayer(50, GyreWatch.UPPER, 0));
        CHECK.due("4 not the LOWER", 400, x.ofLayer(9, GyreWatch.LOWER, 0));
        CHECK.due("4 gift", 0, x.total(2));
        CHECK.due("4 what it was", 50, x.sun(0, 10));
        x.pass(2);
        CHECK.due("4 gift of three days", 10 * 70 - 10 * 150, x.total(2));
        CHECK.due("4 HEAT is kept but for the gift", 84000 - 800, x.total(0));
        CHECK.due("4 what it was again", 10, x.sun(0, 10));
        CHECK.due("4 below 0", -50, x.sun(5, 0));
    }

    private static void promise4NotBelowZero() {
        GyreWatch x = new GyreWatch();
        x.sun(0, -50);
        x.pass(50);
        CHECK.due("4 UPPER at least 0", 0, x.ofLayer(4, GyreWatch.UPPER, 0));
        int lower = x.ofLayer(4, GyreWatch.LOWER, 0);
        CHECK.due("4 gift is what it became less by", (lower - 1400) * 10L, x.total(2));
        GyreWatch odd = new GyreWatch();
        odd.sun(2, -49);
        odd.pass(50);
        odd.pass(50);
        CHECK.due("4 odd gift", odd.total(0) - 84000L, odd.total(2));
    }

    private static void promise4Refused() {
        CHECK.argument("4 y below", Builds::nothing, x -> x.sun(-1, 0));
        CHECK.argument("4 y above", Builds::nothing, x -> x.sun(6, 0));
        CHECK.argument("4 sun below", Builds::nothing, x -> x.sun(0, -51));
        CHECK.argument("4 sun above", Builds::nothing, x -> x.sun(0, 51));
    }

    private static void promise5() {
        GyreWatch x = new GyreWatch();
        CHECK.due("5 one", 1, x.pass(1));
        CHECK.due("5 fifty", 51, x.pass(50));
        GyreWatch single = new GyreWatch();
        GyreWatch together = new GyreWatch();
        for (GyreWatch each : new GyreWatch[] {single, together}) {
            each.current(0, 1);
            each.current(1, 3);
            each.sun(1, -37);
        }
        for (int i = 0; i < 20; i++) {
            single.pass(1);
        }
        together.pass(20);
        CHECK.text("5 by one or together", Track.of(single), Track.of(together));
    }

    private static void promise5TurnsOver() {
        GyreWatch x = new GyreWatch();
        x.sun(0, -50);
        x.pass(13);
        CHECK.due("5 of the same weight", 1400, x.ofLayer(0, GyreWatch.UPPER, 2));
        CHECK.due("5 does not turn over", 350, x.ofLayer(0, GyreWatch.UPPER, 0));
        CHECK.due("5 nor its LOWER", 400, x.ofLayer(0, GyreWatch.LOWER, 0));
        x.sun(0, -1);
        x.pass(1);
        CHECK.due("5 749 by 2", 374, x.ofLayer(0, GyreWatch.UPPER, 0));
        CHECK.due("5 the rest", 375, x.ofLayer(0, GyreWatch.LOWER, 0));
        CHECK.due("5 SALT", 355, x.ofLayer(0, GyreWatch.UPPER, 1));
        CHECK.due("5 SALT, the rest", 355, x.ofLayer(0, GyreWatch.LOWER, 1));
        CHECK.due("5 elsewhere not", 400, x.ofLayer(10, GyreWatch.LOWER, 0));
    }

    private static void promise5TurnsOverOdd() {
        GyreWatch x = new GyreWatch();
        x.current(0, 1);
        x.pass(1);
        x.current(0, 0);
        x.sun(0, -50);
        x.pass(15);
        CHECK.due("5 HEAT 550 by 2", 275, x.ofLayer(0, GyreWatch.UPPER, 0));
        CHECK.due("5 HEAT, the rest", 275, x.ofLayer(0, GyreWatch.LOWER, 0));
        CHECK.due("5 SALT 675 by 2", 337, x.ofLayer(0, GyreWatch.UPPER, 1));
        CHECK.due("5 SALT, the odd rest", 338, x.ofLayer(0, GyreWatch.LOWER, 1));
    }

    /** Currents ahead of the sun, the sun ahead of turning over, that ahead of floats. */
    private static void promise5InItsOrder() {
        GyreWatch x = new GyreWatch();
        x.current(0, 1);
        x.sun(0, 50);
        x.pass(1);
        CHECK.due("5 a tenth without the sun", 950, x.ofLayer(0, GyreWatch.UPPER, 0));
        CHECK.due("5 and with it later", 1150, x.ofLayer(1, GyreWatch.UPPER, 0));
        GyreWatch turned = new GyreWatch();
        turned.sun(0, -50);
        turned.lay(3, 14, 1, 0);
        turned.station(14, 3);
        turned.pass(14);
        CHECK.due("5 a float reads what turned over", 350, turned.ofReading(0, 2));
        CHECK.due("5 floats ahead of ships", 0, turned.ofReading(0, 5));
        CHECK.due("5 ships behind", GyreWatch.NONE, turned.ofReading(1, 5));
    }

    private static void promise5Refused() {
        CHECK.argument("5 none", Builds::nothing, x -> x.pass(0));
        CHECK.argument("5 below 0", Builds::nothing, x -> x.pass(-1));
        CHECK.argument("5 least int", Builds::nothing, x -> x.pass(Integer.MIN_VALUE));
        CHECK.argument("5 too many", Builds::nothing, x -> x.pass(51));
        CHECK.state("5 to 1001", SeaTest::to961, x -> x.pass(40));
        CHECK.state("5 at 1000", Builds::to1000, x -> x.pass(1));
        CHECK.argument("5 first of two", Builds::to1000, x -> x.pass(51));
        GyreWatch x = new GyreWatch();
        to961(x);
        CHECK.due("5 to 1000", 1000, x.pass(39));
    }

    private static void to961(GyreWatch x) {
        for (int i = 0; i < 19; i++) {
            x.pass(50);
        }
        x.pass(11);
    }

    private static void promise15() {
        GyreWatch x = new GyreWatch();
        CHECK.due("15 at first", 0, x.day());
        x.pass(3);
        CHECK.due("15 then", 3, x.day());
        x.pass(50);
        CHECK.due("15 later", 53, x.day());
        CHECK.due("15 asked again", 53, x.day());
    }

    private static void promise16() {
        GyreWatch x = new GyreWatch();
        int[] upper = {1000, 350, 750};
        int[] lower = {400, 360, 1400};
        for (int what = 0; what < 3; what++) {
            CHECK.due("16 UPPER " + what, upper[what], x.ofLayer(0, GyreWatch.UPPER, what));
            CHECK.due("16 LOWER " + what, lower[what], x.ofLayer(59, GyreWatch.LOWER, what));
        }
        x.land(30);
        for (int i = 0; i < 6; i++) {
            CHECK.due("16 of LAND", 0, x.ofLayer(30, i / 3, i % 3));
        }
        CHECK.index("16 below", Builds::nothing, y -> y.ofLayer(-1, 0, 0));
        CHECK.index("16 above", Builds::nothing, y -> y.ofLayer(60, 0, 0));
        CHECK.index("16 first of two", Builds::nothing, y -> y.ofLayer(60, 2, 3));
        CHECK.argument("16 layer below", Builds::nothing, y -> y.ofLayer(0, -1, 0));
        CHECK.argument("16 layer above", Builds::nothing, y -> y.ofLayer(0, 2, 0));
        CHECK.argument("16 what below", Builds::nothing, y -> y.ofLayer(0, 0, -1));
        CHECK.argument("16 what above", Builds::nothing, y -> y.ofLayer(0, 0, 3));
        CHECK.argument("16 what of LAND", y -> y.land(30), y -> y.ofLayer(30, 0, 3));
        CHECK.argument("16 layer of LAND", y -> y.land(30), y -> y.ofLayer(30, 2, 0));
    }

    private static void promise17() {
        GyreWatch x = new GyreWatch();
        x.land(0);
        x.sun(0, 1);
        x.sun(5, -2);
        x.current(20, 1);
        x.pass(1);
        CHECK.due("17 HEAT", 59 * 1400 + 9 - 20, x.total(0));
        CHECK.due("17 SALT", 59 * 710, x.total(1));
        CHECK.due("17 gift", 9 - 20, x.total(2));
        CHECK.argument("17 below", Builds::nothing, y -> y.total(-1));
        CHECK.argument("17 above", Builds::nothing, y -> y.total(3));
    }
}

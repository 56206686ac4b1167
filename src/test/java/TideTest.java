/** Promises 14, 28 and 29: tides. */
public final class TideTest {
    private static final Check CHECK = new Check("TideTest");

    private TideTest() {
    }

    public static void main(String[] args) {
        promise14();
        promise14Refused();
        promise28();
        promise28Refused();
        promise29();
        promise29Refused();
        CHECK.end();
    }

    private static void promise14() {
        GyreWatch x = new GyreWatch();
        CHECK.due("14 shortest", 1, x.part(2, 100, 1));
        CHECK.due("14 longest", 2, x.part(60, 0, 59));
        CHECK.due("14 the same again", 3, x.part(60, 0, 59));
        CHECK.due("14 four", 4, x.part(3, 1, 0));
        CHECK.due("14 five", 5, x.part(3, 1, 2));
        CHECK.due("14 six", 6, x.part(30, 50, 15));
    }

    private static void promise14Refused() {
        CHECK.argument("14 period below", Builds::nothing, x -> x.part(1, 1, 0));
        CHECK.argument("14 period 0", Builds::nothing, x -> x.part(0, 1, 0));
        CHECK.argument("14 period above", Builds::nothing, x -> x.part(61, 1, 0));
        CHECK.argument("14 height below", Builds::nothing, x -> x.part(2, -1, 0));
        CHECK.argument("14 height above", Builds::nothing, x -> x.part(2, 101, 0));
        CHECK.argument("14 phase below", Builds::nothing, x -> x.part(2, 1, -1));
        CHECK.argument("14 phase above", Builds::nothing, x -> x.part(2, 1, 2));
        CHECK.argument("14 phase of the period", Builds::nothing, x -> x.part(60, 1, 60));
        CHECK.state("14 seventh", Builds::sixParts, x -> x.part(12, 1, 0));
        CHECK.argument("14 first of two", Builds::sixParts, x -> x.part(12, 1, 12));
    }

    private static void promise28() {
        GyreWatch x = new GyreWatch();
        CHECK.due("28 without parts", 0, x.tide(100000));
        x.part(12, 50, 0);
        int[] due = {50, 33, 16, 0, -16, -33, -50, -33, -16, 0, 16, 33, 50};
        for (int time = 0; time < due.length; time++) {
            CHECK.due("28 by 12 at " + time, due[time], x.tide(time));
        }
        x.part(7, 10, 3);
        CHECK.due("28 two at 0", 50 - 7, x.tide(0));
        CHECK.due("28 two at 4", -16 + 10, x.tide(4));
        CHECK.due("28 each is rounded by itself", 33 - 7, x.tide(1));
        CHECK.due("28 the last time", x.tide(100000 % 84), x.tide(100000));
        GyreWatch least = new GyreWatch();
        least.part(2, 100, 1);
        CHECK.due("28 by 2 at 0", -100, least.tide(0));
        CHECK.due("28 by 2 at 1", 100, least.tide(1));
        GyreWatch odd = new GyreWatch();
        odd.part(3, 100, 0);
        CHECK.due("28 by 3 at 1", -33, odd.tide(1));
        CHECK.due("28 by 3 at 2", -33, odd.tide(2));
    }

    private static void promise28Refused() {
        CHECK.argument("28 below", Builds::sixParts, x -> x.tide(-1));
        CHECK.argument("28 above", Builds::sixParts, x -> x.tide(100001));
    }

    private static void promise29() {
        GyreWatch x = new GyreWatch();
        CHECK.due("29 without parts, the first", 17, x.highest(17, 517));
        x.part(12, 50, 0);
        CHECK.due("29 the first of several", 12, x.highest(1, 100));
        CHECK.due("29 from itself", 0, x.highest(0, 100));
        CHECK.due("29 to itself", 12, x.highest(7, 12));
        CHECK.due("29 the one behind from", 12, x.highest(11, 13));
        CHECK.due("29 rising", 11, x.highest(7, 11));
        CHECK.due("29 falling", 13, x.highest(13, 17));
        CHECK.due("29 one time", 6, x.highest(6, 6));
        CHECK.due("29 below 0", 5, x.highest(5, 7));
        CHECK.due("29 the last time", 100000, x.highest(100000, 100000));
        CHECK.due("29 at the end", 99996, x.highest(99990, 100000));
        GyreWatch far = new GyreWatch();
        far.part(59, 50, 0);
        far.part(60, 50, 20);
        CHECK.due("29 500 on", 1180, far.highest(680, 1180));
    }

    private static void promise29Refused() {
        CHECK.argument("29 from below", Builds::sixParts, x -> x.highest(-1, 5));
        CHECK.argument("29 from above", Builds::sixParts, x -> x.highest(100001, 100001));
        CHECK.argument("29 to below", Builds::sixParts, x -> x.highest(5, 4));
        CHECK.argument("29 to above", Builds::sixParts, x -> x.highest(5, 506));
        CHECK.argument("29 to above all", Builds::sixParts, x -> x.highest(99999, 100001));
        CHECK.argument("29 greatest int", Builds::sixParts, x -> x.highest(Integer.MAX_VALUE, Integer.MAX_VALUE));
        CHECK.argument("29 least int", Builds::sixParts, x -> x.highest(Integer.MIN_VALUE, 0));
    }
}

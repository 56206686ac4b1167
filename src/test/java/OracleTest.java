/** Runs of calls drawn by a counted rule, each answer compared with the Oracle's. */
public final class OracleTest {
    private static final int RUNS = 600;
    private static final int CALLS = 512;
    /** A call's name, then the kinds of its arguments; the names that stand twice come twice as often. */
    private static final String[] KINDS = {
        "land cell", "current cell current", "current cell current", "current cell current", "sun y sun",
        "pass days", "pass days", "pass days", "lay cell parks battery bias", "lay cell parks battery bias",
        "station soon cell", "station soon cell", "station soon cell", "storm soon later", "calibrate float",
        "calibrate float", "flag reading flag", "bound bound", "search cell", "leg search cell hundredths",
        "part period height phase", "day", "ofLayer cell two what3", "ofLayer cell two what3", "total what3",
        "total what3", "ofFloat float what5", "ofFloat float what5", "stations", "readings",
        "ofReading reading what6", "ofReading reading what6", "ofReading reading what6", "mean cell near span",
        "mean cell near span", "error cell near span", "residual reading span", "residual reading span",
        "chance search cell", "chance search cell", "best search", "plan search legs hundredths", "tide time",
        "highest time time2",
    };

    private long drawn;
    private int cellsAlike;
    private int lastSoon;
    private int lastTime;

    private OracleTest(long seed) {
        drawn = seed;
    }

    public static void main(String[] args) {
        Check check = new Check("OracleTest");
        int runs = args.length > 0 ? Integer.parseInt(args[0]) : RUNS;
        for (int run = 0; run < runs; run++) {
            check.text("run " + run, "as the Oracle", new OracleTest(run * 7919L + 1).differs());
        }
        check.end();
    }

    /** The first call whose answer is not the Oracle's, with the calls ahead of it. */
    private String differs() {
        GyreWatch x = new GyreWatch();
        Oracle oracle = new Oracle();
        cellsAlike = draw(4);
        StringBuilder calls = new StringBuilder();
        int prelude = draw(25);
        for (int i = 0; i < CALLS; i++) {
            String[] kinds = KINDS[draw(KINDS.length)].split(" ");
            if (i < prelude && kinds[0].equals("pass")) {
                continue;
            }
            int[] a = new int[4];
            for (int k = 1; k < kinds.length; k++) {
                a[k - 1] = argument(kinds[k], x);
            }
            String due = oracle.answer(kinds[0], a);
            String got = answer(x, kinds[0], a);
            calls.append(kinds[0]).append(java.util.Arrays.toString(a)).append(' ').append(got).append('\n');
            if (!due.equals(got)) {
                return calls + "due is " + due;
            }
        }
        return "as the Oracle";
    }

    private int draw(int below) {
        drawn = drawn * 6364136223846793005L + 1442695040888963407L;
        return (int) Math.floorMod(drawn >>> 33, (long) below);
    }

    private int between(int least, int most) {
        return most <= least || most - least < 0 ? least : least + draw(most - least + 1);
    }

    /** Now and then just beyond its range, or an int far from it. */
    private int around(int least, int most) {
        switch (draw(40)) {
            case 0: return least - 1;
            case 1: return most + 1;
            case 2: return least;
            case 3: return most;
            case 4: return draw(4) == 0 ? new int[] {Integer.MIN_VALUE, Integer.MAX_VALUE, -1, 0}[draw(4)] : least;
            default: return between(least, most);
        }
    }

    private int cell() {
        int[] few = {0, 1, 10, 11, 12, 2};
        switch (cellsAlike) {
            case 0: return around(0, 59);
            case 1: return draw(4) == 0 ? around(0, 59) : few[draw(few.length)];
            case 2: return draw(4) == 0 ? around(0, 59) : 10 * between(2, 3) + between(4, 6);
            default: return draw(3) == 0 ? around(0, 59) : 5 + draw(2);
        }
    }

    private int argument(String kind, GyreWatch x) {
        switch (kind) {
            case "cell": return cell();
            case "current": return around(0, 4);
            case "y": return around(0, 5);
            case "sun": return draw(3) == 0 ? new int[] {-50, 50}[draw(2)] : around(-50, 50);
            case "days": return draw(20) == 0 ? around(1, 50) : between(1, 3);
            case "parks": return draw(3) == 0 ? around(1, 20) : between(1, 3);
            case "battery": return draw(3) == 0 ? around(1, 5) : around(1, 100);
            case "bias": return around(-50, 50);
            case "soon": return soon(x);
            case "later": return draw(10) == 0 ? around(lastSoon, 1000) : lastSoon + draw(5);
            case "float": return around(0, draw(10) == 0 ? 7 : 3);
            case "reading": return draw(4) == 0 ? around(0, 99) : around(0, Math.max(0, x.readings() - 1));
            case "flag": return around(-1, 2);
            case "bound": return draw(2) == 0 ? around(0, 1000) : between(0, 60);
            default: return otherArgument(kind, x);
        }
    }

    private int otherArgument(String kind, GyreWatch x) {
        switch (kind) {
            case "search": return around(0, draw(10) == 0 ? 3 : 1);
            case "hundredths": return around(1, 100);
            case "period": lastTime = around(2, 60); return lastTime;
            case "height": return around(0, 100);
            case "phase": return around(0, Math.max(1, Math.min(60, lastTime)) - 1);
            case "two": return around(0, 1);
            case "what3": return around(0, 2);
            case "what5": return around(0, 4);
            case "what6": return around(0, 5);
            case "near": return draw(6) == 0 ? around(0, 1000) : Math.max(0, x.day() - draw(6));
            case "span": return draw(3) == 0 ? around(0, 1000) : between(0, 6);
            case "legs": return around(1, 20);
            case "time": lastTime = draw(2) == 0 ? around(0, 100000) : draw(200); return lastTime;
            case "time2": return draw(4) == 0 ? around(lastTime, lastTime + 500) : lastTime + draw(90);
            default: throw new AssertionError(kind);
        }
    }

    private int soon(GyreWatch x) {
        lastSoon = draw(8) == 0 ? around(x.day() + 1, 1000) : x.day() + draw(7);
        return lastSoon;
    }

    private static String answer(GyreWatch x, String name, int[] a) {
        try {
            return "" + told(x, name, a);
        } catch (RuntimeException e) {
            return e.getClass().getSimpleName();
        }
    }

    private static int told(GyreWatch x, String name, int[] a) {
        switch (name) {
            case "land": return x.land(a[0]);
            case "current": return x.current(a[0], a[1]);
            case "sun": return x.sun(a[0], a[1]);
            case "pass": return x.pass(a[0]);
            case "lay": return x.lay(a[0], a[1], a[2], a[3]);
            case "station": return x.station(a[0], a[1]);
            case "storm": return x.storm(a[0], a[1]);
            case "calibrate": return x.calibrate(a[0]);
            case "flag": return x.flag(a[0], a[1]);
            case "bound": return x.bound(a[0]);
            case "search": return x.search(a[0]);
            case "leg": return x.leg(a[0], a[1], a[2]);
            case "part": return x.part(a[0], a[1], a[2]);
            default: return asked(x, name, a);
        }
    }

    private static int asked(GyreWatch x, String name, int[] a) {
        switch (name) {
            case "day": return x.day();
            case "ofLayer": return x.ofLayer(a[0], a[1], a[2]);
            case "total": return x.total(a[0]);
            case "ofFloat": return x.ofFloat(a[0], a[1]);
            case "stations": return x.stations();
            case "readings": return x.readings();
            case "ofReading": return x.ofReading(a[0], a[1]);
            case "mean": return x.mean(a[0], a[1], a[2]);
            case "error": return x.error(a[0], a[1], a[2]);
            case "residual": return x.residual(a[0], a[1]);
            case "chance": return x.chance(a[0], a[1]);
            case "best": return x.best(a[0]);
            case "plan": return x.plan(a[0], a[1], a[2]);
            case "tide": return x.tide(a[0]);
            case "highest": return x.highest(a[0], a[1]);
            default: throw new AssertionError(name);
        }
    }
}

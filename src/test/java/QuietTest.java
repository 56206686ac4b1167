/** Questions change nothing, whatever is asked and however often. */
public final class QuietTest {
    private QuietTest() {
    }

    public static void main(String[] args) {
        Check check = new Check("QuietTest");
        GyreWatch asked = built();
        GyreWatch spared = built();
        for (int i = 0; i < 3; i++) {
            StringBuilder first = new StringBuilder();
            StringBuilder again = new StringBuilder();
            askAll(first, asked);
            askAll(again, asked);
            check.text("asked again on day " + asked.day(), first.toString(), again.toString());
            asked.pass(1);
            spared.pass(1);
        }
        check.text("asked or not", Track.of(spared), Track.of(asked));
        check.end();
    }

    private static GyreWatch built() {
        GyreWatch x = new GyreWatch();
        x.land(44);
        x.current(0, 1);
        x.current(1, 3);
        x.sun(0, 50);
        x.lay(0, 1, 9, 5);
        x.lay(1, 2, 2, -5);
        x.station(1, 1);
        x.station(4, 11);
        x.storm(4, 4);
        x.search(0);
        x.part(12, 50, 3);
        x.pass(2);
        x.calibrate(0);
        x.flag(0, GyreWatch.BAD);
        return x;
    }

    private static void askAll(StringBuilder seen, GyreWatch x) {
        for (int i = 0; i < 3; i++) {
            seen.append(' ').append(x.plan(0, 5, 40 + i));
            seen.append(' ').append(x.best(0)).append(' ').append(x.chance(0, i));
            seen.append(' ').append(x.mean(i, 2, i)).append(' ').append(x.error(i, 2, i));
            seen.append(' ').append(x.residual(i, 5)).append(' ').append(x.ofReading(i, 4));
            seen.append(' ').append(x.tide(i)).append(' ').append(x.highest(i, i + 20));
            seen.append(' ').append(x.total(i)).append(' ').append(x.ofLayer(i, i % 2, i));
            seen.append(' ').append(x.ofFloat(i % 2, i)).append(' ').append(x.ofFloat(i % 2, i + 2));
            seen.append(' ').append(x.day()).append(x.stations()).append(x.readings());
        }
    }
}

/** Counts what a test looks at; ends the program with 1 if an answer was not the one that is due. */
final class Check {
    interface Build {
        void on(GyreWatch x);
    }

    interface Call {
        int on(GyreWatch x);
    }

    private final String name;
    private int looked;
    private int wrong;

    Check(String name) {
        this.name = name;
    }

    void due(String what, long due, long got) {
        text(what, Long.toString(due), Long.toString(got));
    }

    void text(String what, String due, String got) {
        looked++;
        if (!due.equals(got)) {
            wrong++;
            System.out.println(name + ": " + what + " answered " + got + ", due is " + due);
        }
    }

    /** The call throws just this, and an object that was so called goes on as one that was not. */
    void refused(String what, Class<? extends RuntimeException> due, Build build, Call call) {
        GyreWatch called = new GyreWatch();
        GyreWatch spared = new GyreWatch();
        build.on(called);
        build.on(spared);
        text(what, due.getSimpleName(), nameOfThrown(called, call));
        text(what + ", what follows", Track.of(spared), Track.of(called));
    }

    void index(String what, Build build, Call call) {
        refused(what, IndexOutOfBoundsException.class, build, call);
    }

    void argument(String what, Build build, Call call) {
        refused(what, IllegalArgumentException.class, build, call);
    }

    void state(String what, Build build, Call call) {
        refused(what, IllegalStateException.class, build, call);
    }

    private static String nameOfThrown(GyreWatch x, Call call) {
        try {
            return "the answer " + call.on(x);
        } catch (RuntimeException e) {
            return e.getClass().getSimpleName();
        }
    }

    void end() {
        System.out.println(name + ": " + looked + " answers looked at, " + wrong + " wrong");
        if (wrong != 0) {
            System.exit(1);
        }
    }
}

/** Counts what a test looks at; ends the program with 1 if an answer was not the one that is due. */
final class Check {
    static final Class<? extends RuntimeException> INDEX = IndexOutOfBoundsException.class;
    static final Class<? extends RuntimeException> ARGUMENT = IllegalArgumentException.class;
    static final Class<? extends RuntimeException> STATE = IllegalStateException.class;

    interface Build {
        void on(GyreWatch x);
    }

    interface Call {
        int on(GyreWatch x);
    }

    interface CallOf {
        int on(GyreWatch x, int argument);
    }

    private final String name;
    private String about = "";
    private int looked;
    private int wrong;

    Check(String name) {
        this.name = name;
    }

    /** What the next answers are about, for the lines that tell wrong ones. */
    void about(String words) {
        about = " [" + words + "]";
    }

    int looked() {
        return looked;
    }

    void due(String what, long due, long got) {
        text(what, Long.toString(due), Long.toString(got));
    }

    void text(String what, String due, String got) {
        looked++;
        if (!due.equals(got)) {
            wrong++;
            System.out.println(name + about + ": " + what + " answered " + got + ", due is " + due);
        }
    }

    /** The call answers, whatever it is. */
    void taken(String what, Build build, Call call) {
        GyreWatch x = new GyreWatch();
        build.on(x);
        String answer = answerOf(x, call);
        text(what, "an answer", answer.endsWith("Exception") ? answer : "an answer");
    }

    /** The call answers with the least and the most that its argument can be. */
    void within(int least, int most, Build build, CallOf call) {
        taken("least " + least, build, x -> call.on(x, least));
        taken("most " + most, build, x -> call.on(x, most));
    }

    /** The call is refused with what is just beyond its argument's range, and far beyond. */
    void beyond(Class<? extends RuntimeException> due, int least, int most, Build build, CallOf call) {
        int[] arguments = {least - 1, most + 1, Integer.MIN_VALUE, Integer.MAX_VALUE};
        for (int argument : arguments) {
            refused("with " + argument, due, build, x -> call.on(x, argument));
        }
    }

    /** The call throws just this, and an object that was so called goes on as one that was not. */
    void refused(String what, Class<? extends RuntimeException> due, Build build, Call call) {
        for (Track.Look look : Track.LOOKS) {
            text(what, due.getSimpleName(), changed(what, build, call, look));
        }
    }

    /** The call answers the same each time, and an object that was so called goes on as one that was not. */
    void quiet(String what, Build build, Call call) {
        for (Track.Look look : Track.LOOKS) {
            String first = changed(what, build, call, look);
            String thrice = changed(what, build, x -> {
                call.on(x);
                call.on(x);
                return call.on(x);
            }, look);
            text(what + ", asked again", first, thrice);
            text(what, "an answer", first.endsWith("Exception") ? first : "an answer");
        }
    }

    private String changed(String what, Build build, Call call, Track.Look look) {
        GyreWatch called = new GyreWatch();
        GyreWatch spared = new GyreWatch();
        build.on(called);
        build.on(spared);
        String answer = answerOf(called, call);
        text(what + ", what follows", look.of(spared), look.of(called));
        return answer;
    }

    void index(String what, Build build, Call call) {
        refused(what, INDEX, build, call);
    }

    void argument(String what, Build build, Call call) {
        refused(what, ARGUMENT, build, call);
    }

    void state(String what, Build build, Call call) {
        refused(what, STATE, build, call);
    }

    /** The answer, or the name of what is thrown. */
    static String answerOf(GyreWatch x, Call call) {
        try {
            return "the answer " + call.on(x);
        } catch (RuntimeException e) {
            return e.getClass().getSimpleName();
        }
    }

    void end() {
        System.out.println(name + ": " + looked + " answers looked at, " + wrong + " wrong");
        if (wrong != 0) {
            System.exit(1);
        }
    }
}

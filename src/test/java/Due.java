/** What a test tells: each answer that is not the one that is due, and at the end whether there was one. */
final class Due {
    private final String name;
    private int wrong = 0;
    private int told = 0;

    Due(String name) {
        this.name = name;
    }

    /** A call whose answer nobody looks at. */
    interface Call {
        void run();
    }

    void same(String call, Object got, Object want) {
        told++;
        if (!want.equals(got)) {
            wrong++;
            System.out.println(name + ": " + call + " answered " + got + ", due is " + want);
        }
    }

    /** That very class is due, not one below it. */
    void refused(String call, Class<? extends RuntimeException> want, Call run) {
        Object got = "no exception";
        try {
            run.run();
        } catch (RuntimeException thrown) {
            got = thrown.getClass();
        }
        same(call, got, want);
    }

    void noPoint(String call, Call run) {
        refused(call, IndexOutOfBoundsException.class, run);
    }

    void badArgument(String call, Call run) {
        refused(call, IllegalArgumentException.class, run);
    }

    void badState(String call, Call run) {
        refused(call, IllegalStateException.class, run);
    }

    void end() {
        System.out.println(name + ": " + told + " answers, " + wrong + " wrong");
        if (wrong != 0) {
            System.exit(1);
        }
    }
}

/** What a test tells: each answer that is not the one that is due, and at the end whether there was one. */
final class Due {
    private static final long LONGEST_MILLISECONDS = 600_000L;

    private final String name;
    private int wrong = 0;
    private int told = 0;

    Due(String name) {
        this.name = name;
        Thread limit = new Thread(this::endLate);
        limit.setDaemon(true);
        limit.start();
    }

    /** A call whose answer nobody looks at. */
    interface Call {
        void run();
    }

    void same(String call, Object got, Object want) {
        told++;
        if (!want.equals(got)) {
            wrong++;
            System.out.println(name + ": " + call + " answered " + got + ", due is " + want);
        }
    }

    /** That very class is due, not one below it. */
    void refused(String call, Class<? extends RuntimeException> want, Call run) {
        Object got = "no exception";
        try {
            run.run();
        } catch (RuntimeException thrown) {
            got = thrown.getClass();
        }
        same(call, got, want);
    }

    void noPoint(String call, Call run) {
        refused(call, IndexOutOfBoundsException.class, run);
    }

    void badArgument(String call, Call run) {
        refused(call, IllegalArgumentException.class, run);
    }

    void badState(String call, Call run) {
        refused(call, IllegalStateException.class, run);
    }

    void end() {
        System.out.println(name + ": " + told + " answers, " + wrong + " wrong");
        if (wrong != 0) {
            System.exit(1);
        }
    }

    /** A call that does not end is a fault too: without this the test would hang instead of failing. */
    private void endLate() {
        try {
            Thread.sleep(LONGEST_MILLISECONDS);
            System.out.println(name + ": not at its end after " + LONGEST_MILLISECONDS / 1000 + " seconds");
            System.out.flush();
            Runtime.getRuntime().halt(1);
        } catch (InterruptedException ended) {
            Thread.currentThread().interrupt();
        }
    }
}

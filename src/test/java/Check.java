/** Counts answers that are due and prints those that are not. */
final class Check {
    private final String name;
    private int passed;
    private int failed;

    Check(String name) {
        this.name = name;
    }

    interface Call {
        long answer();
    }

    void that(String what, long got, long due) {
        if (got == due) {
            passed++;
        } else {
            failed++;
            System.out.println(name + ": " + what + " answered " + got + ", due is " + due);
        }
    }

    /** The call throws exactly this class, and leaves the digest of the imager as it was. */
    void refuses(SlownessImager imager, Class<? extends RuntimeException> due, String what, Call call) {
        long before = imager.digest();
        String got;
        try {
            got = "answered " + call.answer();
        } catch (RuntimeException e) {
            got = "threw " + e.getClass().getSimpleName();
        }
        boolean right = got.equals("threw " + due.getSimpleName());
        if (right) {
            passed++;
        } else {
            failed++;
            System.out.println(name + ": " + what + " " + got + ", due is " + due.getSimpleName());
        }
        that(what + " changes nothing", imager.digest(), before);
    }

    void end() {
        System.out.println(name + ": " + passed + " right, " + failed + " wrong");
        if (failed != 0) {
            System.exit(1);
        }
    }
}

/** Counts the answers that are not as due, prints them, and ends the run by them. */
final class Checks {
    private final String test;
    private int made;
    private int wrong;

    Checks(String test) {
        this.test = test;
    }

    void same(String what, long got, long due) {
        report(what, got == due, String.valueOf(got), String.valueOf(due));
    }

    void same(String what, double got, double due) {
        report(what, Double.compare(got, due) == 0, String.valueOf(got), String.valueOf(due));
    }

    void same(String what, String got, String due) {
        report(what, got.equals(due), got, due);
    }

    void same(String what, boolean got, boolean due) {
        report(what, got == due, String.valueOf(got), String.valueOf(due));
    }

    void holds(String what, boolean got) {
        report(what, got, "false", "true");
    }

    void fails(String what, boolean got) {
        report(what, !got, "true", "false");
    }

    void noSuch(String what, Runnable call) {
        throwing(what, java.util.NoSuchElementException.class, call);
    }

    void illegalArgument(String what, Runnable call) {
        throwing(what, IllegalArgumentException.class, call);
    }

    void illegalState(String what, Runnable call) {
        throwing(what, IllegalStateException.class, call);
    }

    void throwing(String what, Class<? extends RuntimeException> due, Runnable call) {
        String got = "nothing";
        try {
            call.run();
        } catch (RuntimeException e) {
            got = e.getClass().getName();
        }
        report(what + " throws", got.equals(due.getName()), got, due.getName());
    }

    private void report(String what, boolean right, String got, String due) {
        made++;
        if (!right) {
            wrong++;
            System.out.println(test + ": " + what + " answered " + got + ", due is " + due);
        }
    }

    void end() {
        System.out.println(test + ": " + (made - wrong) + " of " + made + " answers are as due");
        if (wrong > 0 || made == 0) {
            System.exit(1);
        }
    }
}

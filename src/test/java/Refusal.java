/** Looks at a call that is refused: which exception comes, and that the floor is as one without this call. */
final class Refusal {
    /** Calls on a floor, one or many. */
    interface Story {
        void tell(MatchFloor floor);
    }

    private Refusal() {
    }

    /**
     * Each refusal has two new floors of its own, both with the same story, of which one is given the call.
     * So no floor is asked more often than 512 times.
     */
    static void check(Checks checks, String what, Story story, Class<? extends RuntimeException> due, Story call) {
        MatchFloor asked = new MatchFloor();
        MatchFloor left = new MatchFloor();
        story.tell(asked);
        story.tell(left);
        checks.throwing(what, due, () -> call.tell(asked));
        checks.same(what + " changes nothing", Look.at(asked), Look.at(left));
        checks.same(what + " leaves the band", asked.setBand(0), left.setBand(0));
        checks.same(what + " leaves the rule", asked.setRule('r'), left.setRule('r'));
    }

    /** The same on a new floor. */
    static void check(Checks checks, String what, Class<? extends RuntimeException> due, Story call) {
        check(checks, what, x -> { }, due, call);
    }
}

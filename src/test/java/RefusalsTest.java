import java.util.ArrayList;
import java.util.List;

/** A call that throws changes nothing, and a call that only tells something changes nothing. */
public final class RefusalsTest {
    private static final Checks checks = new Checks("RefusalsTest");

    private interface Story {
        void tell(MatchFloor floor);
    }

    private RefusalsTest() {
    }

    public static void main(String[] args) {
        unchanged("a new floor", x -> { });
        unchanged("a book", RefusalsTest::book);
        unchanged("a halted floor", RefusalsTest::haltedBook);
        unchanged("a floor after an auction", RefusalsTest::auctioned);
        fullFloor();
        goesOnAsBefore();
        telling();
        checks.end();
    }

    /** Orders 0 to 6: active to buy, filled, active to sell, cancelled, waiting, filled, waiting but ready. */
    private static void book(MatchFloor x) {
        x.setBand(40);
        x.setRule('i');
        x.send(0, 'b', 20, 9, 3);
        x.send(1, 'b', 19, 2, 2);
        x.send(2, 's', 25, 8, 2);
        x.send(3, 's', 26, 4, 4);
        x.sendStop(4, 'b', 90, 95, 5);
        x.cancel(1);
        x.send(5, 's', 20, 4, 4);
        x.sendStop(4, 'b', 20, 24, 6);
    }

    private static void haltedBook(MatchFloor x) {
        book(x);
        x.halt();
        x.send(1, 'b', 26, 7, 2);
    }

    private static void auctioned(MatchFloor x) {
        haltedBook(x);
        x.auction();
    }

    private static void unchanged(String what, Story story) {
        MatchFloor left = new MatchFloor();
        MatchFloor refused = new MatchFloor();
        story.tell(left);
        story.tell(refused);
        int count = 0;
        for (Runnable call : refusedCalls(refused)) {
            checks.holds(what + ": call " + count++ + " is refused", throwsSomething(call));
        }
        checks.same(what, Look.at(refused), Look.at(left));
        checks.same(what + ": band", refused.setBand(0), left.setBand(0));
        checks.same(what + ": rule", refused.setRule('r'), left.setRule('r'));
    }

    private static List<Runnable> refusedCalls(MatchFloor x) {
        List<Runnable> calls = new ArrayList<>();
        calls.add(() -> x.send(6, 'b', 20, 5, 5));
        calls.add(() -> x.send(0, 'x', 20, 5, 5));
        calls.add(() -> x.send(0, 'b', 101, 5, 5));
        calls.add(() -> x.send(0, 's', 20, 0, 5));
        calls.add(() -> x.send(0, 's', 20, 5, 100));
        calls.add(() -> x.sendStop(-1, 'b', 20, 20, 5));
        calls.add(() -> x.sendStop(0, 'B', 20, 20, 5));
        calls.add(() -> x.sendStop(0, 'b', 0, 20, 5));
        calls.add(() -> x.sendStop(0, 'b', 20, 301, 5));
        calls.add(() -> x.sendStop(0, 'b', 20, 20, 100));
        calls.add(() -> x.cancel(-1));
        calls.add(() -> x.cancel(99));
        calls.add(() -> x.reduce(-1, 1));
        calls.add(() -> x.reduce(99, 0));
        calls.add(() -> x.setBand(-1));
        calls.add(() -> x.setBand(51));
        calls.add(() -> x.setRule('x'));
        if (x.isHalted()) {
            calls.add(() -> x.halt());
        } else {
            calls.add(() -> x.auction());
        }
        for (int i = 0; i < x.orderCount(); i++) {
            int order = i;
            calls.add(() -> x.reduce(order, 0));
            calls.add(() -> x.reduce(order, -7));
            calls.add(() -> x.reduce(order, x.leftOf(order)));
            calls.add(() -> x.reduce(order, 100));
            if (x.stateOf(order) == 'f' || x.stateOf(order) == 'c') {
                calls.add(() -> x.cancel(order));
                calls.add(() -> x.reduce(order, 1));
            }
        }
        return calls;
    }

    private static boolean throwsSomething(Runnable call) {
        try {
            call.run();
            return false;
        } catch (RuntimeException e) {
            return true;
        }
    }

    private static void fill(MatchFloor x) {
        for (int i = 0; i < 30; i++) {
            x.send(0, 'b', 20, 9, 3);
            x.sendStop(1, 's', 25, 30, 3);
        }
    }

    private static void fullFloor() {
        MatchFloor left = new MatchFloor();
        MatchFloor refused = new MatchFloor();
        fill(left);
        fill(refused);
        checks.illegalState("an order that would trade", () -> refused.send(2, 's', 20, 5, 5));
        checks.illegalState("an order of the same owner", () -> refused.send(0, 's', 20, 5, 5));
        checks.illegalState("an order that would not trade", () -> refused.send(2, 'b', 20, 5, 5));
        checks.illegalState("a stop", () -> refused.sendStop(2, 's', 20, 5, 5));
        checks.same("a full floor", Look.at(refused), Look.at(left));
    }

    private static void goesOnAsBefore() {
        MatchFloor left = new MatchFloor();
        MatchFloor refused = new MatchFloor();
        book(left);
        book(refused);
        for (Runnable call : refusedCalls(refused)) {
            throwsSomething(call);
        }
        for (MatchFloor x : new MatchFloor[] {left, refused}) {
            x.send(1, 's', 20, 9, 9);
            x.send(1, 'b', 26, 9, 9);
            x.halt();
            x.auction();
        }
        checks.same("what comes later", Look.at(refused), Look.at(left));
    }

    private static void telling() {
        MatchFloor x = new MatchFloor();
        haltedBook(x);
        String first = Look.at(x);
        x.auctionPriceByTrying();
        x.volumeAt(20);
        x.meanPrice();
        x.spread();
        checks.same("asked again", Look.at(x), first);
        checks.same("auction after it", x.auction(), 7);
    }
}

import java.util.ArrayList;
import java.util.List;
import java.util.NoSuchElementException;

/**
 * "A method that throws an exception changes nothing. If several exceptions apply, the one that is documented first
 * is thrown." Looked at in each kind of state; and a call that only tells something changes nothing either.
 */
public final class RefusalsTest {
    private static final Checks checks = new Checks("RefusalsTest");
    private static final Class<IllegalArgumentException> ARGUMENT = IllegalArgumentException.class;
    private static final Class<IllegalStateException> STATE = IllegalStateException.class;
    private static final Class<NoSuchElementException> NONE = NoSuchElementException.class;
    private static final Class<IndexOutOfBoundsException> PLACE = IndexOutOfBoundsException.class;

    /** A call that is refused in some state, and how. */
    private static final class Refused {
        final String what;
        final Class<? extends RuntimeException> due;
        final Refusal.Story call;

        Refused(String what, Class<? extends RuntimeException> due, Refusal.Story call) {
            this.what = what;
            this.due = due;
            this.call = call;
        }
    }

    private RefusalsTest() {
    }

    public static void main(String[] args) {
        refusedIn("a new floor", x -> { });
        refusedIn("a book", RefusalsTest::book);
        refusedIn("a halted floor", RefusalsTest::haltedBook);
        refusedIn("a floor after an auction", RefusalsTest::auctioned);
        refusedIn("a floor halted by its band", RefusalsTest::bandHalted);
        refusedIn("a full floor", RefusalsTest::full);
        refusedIn("a full halted floor", RefusalsTest::fullHalted);
        refusedIn("a full floor with stops that could be set off", RefusalsTest::fullOfReadyStops);
        goesOnAsBefore("a book", RefusalsTest::book);
        goesOnAsBefore("a halted floor", RefusalsTest::haltedBook);
        goesOnAsBefore("a floor after an auction", RefusalsTest::auctioned);
        telling();
        checks.end();
    }

    /** Orders 0 to 6: active to buy, cancelled, active to sell twice, waiting, filled, waiting but ready. */
    private static void book(MatchFloor x) {
        x.setBand(40);
        x.setRule('i');
        x.send(0, 'b', 20, 9, 3);
        x.send(1, 'b', 19, 2, 2);
        x.send(2, 's', 25, 8, 2);
        x.send(3, 's', 26, 4, 4);
        x.sendStop(4, 'b', 90, 95, 5);
        x.cancel(1);
        x.send(5, 's', 20, 4, 4);
        x.sendStop(4, 'b', 20, 24, 6);
    }

    private static void haltedBook(MatchFloor x) {
        book(x);
        x.halt();
        x.send(1, 'b', 26, 7, 2);
    }

    private static void auctioned(MatchFloor x) {
        haltedBook(x);
        x.auction();
    }

    private static void bandHalted(MatchFloor x) {
        book(x);
        x.setBand(1);
        x.send(4, 'b', 26, 9, 9);
    }

    private static void full(MatchFloor x) {
        x.setBand(7);
        for (int i = 0; i < 30; i++) {
            x.send(0, 'b', 20, 9, 3);
            x.sendStop(1, 's', 25, 30, 3);
        }
    }

    private static void fullHalted(MatchFloor x) {
        full(x);
        x.halt();
    }

    private static void fullOfReadyStops(MatchFloor x) {
        x.send(0, 's', 20, 1, 1);
        x.send(1, 'b', 20, 1, 1);
        x.send(2, 's', 25, 99, 1);
        for (int i = 0; i < 59; i++) {
            x.sendStop(3, 'b', 20, 25, 1);
        }
    }

    private static void refusedIn(String state, Refusal.Story story) {
        MatchFloor like = new MatchFloor();
        story.tell(like);
        for (Refused one : refusedCalls(like)) {
            Refusal.check(checks, state + ": " + one.what, story, one.due, one.call);
        }
    }

    /** All kinds of calls that are refused by a floor in the same state as the given one. */
    private static List<Refused> refusedCalls(MatchFloor like) {
        List<Refused> calls = new ArrayList<>();
        wrongOrders(calls);
        wrongSettings(calls);
        int count = like.orderCount();
        for (int number : new int[] {-1, count, count + 1}) {
            noOrder(calls, number);
        }
        for (int number = 0; number < Math.min(count, 12); number++) {
            wrongByState(calls, number, like.stateOf(number), like.leftOf(number));
        }
        if (like.isHalted()) {
            calls.add(new Refused("halt", STATE, x -> x.halt()));
        } else {
            calls.add(new Refused("auction", STATE, x -> x.auction()));
        }
        if (liveOrders(like) == 60) {
            calls.add(new Refused("an order too many", STATE, x -> x.send(2, 'b', 20, 5, 5)));
            calls.add(new Refused("one too many that could trade", STATE, x -> x.send(2, 's', 20, 5, 5)));
            calls.add(new Refused("one too many of the same owner", STATE, x -> x.send(0, 's', 20, 5, 5)));
            calls.add(new Refused("a stop too many", STATE, x -> x.sendStop(2, 's', 20, 5, 5)));
        }
        wrongSides(calls);
        wrongLevels(calls, 'b', like.levels('b'));
        wrongLevels(calls, 's', like.levels('s'));
        wrongPlaces(calls, like);
        wrongRanks(calls, Math.min(like.tradeCount(), 50));
        wrongQuestions(calls, like);
        return calls;
    }

    private static int liveOrders(MatchFloor x) {
        int live = 0;
        for (int number = 0, count = x.orderCount(); number < count; number++) {
            live += x.stateOf(number) == 'a' || x.stateOf(number) == 'w' ? 1 : 0;
        }
        return live;
    }

    /** Each argument of send and sendStop in turn, and all of them; on a full floor as well. */
    private static void wrongOrders(List<Refused> calls) {
        calls.add(new Refused("owner -1", ARGUMENT, x -> x.send(-1, 'b', 20, 5, 5)));
        calls.add(new Refused("owner 6", ARGUMENT, x -> x.send(6, 'b', 20, 5, 5)));
        calls.add(new Refused("side x", ARGUMENT, x -> x.send(0, 'x', 20, 5, 5)));
        calls.add(new Refused("price 0", ARGUMENT, x -> x.send(0, 'b', 0, 5, 5)));
        calls.add(new Refused("price 101", ARGUMENT, x -> x.send(0, 'b', 101, 5, 5)));
        calls.add(new Refused("price 301", ARGUMENT, x -> x.send(0, 's', 301, 5, 5)));
        calls.add(new Refused("amount 0", ARGUMENT, x -> x.send(0, 's', 20, 0, 5)));
        calls.add(new Refused("amount 100", ARGUMENT, x -> x.send(0, 's', 20, 100, 5)));
        calls.add(new Refused("slice 0", ARGUMENT, x -> x.send(0, 's', 20, 5, 0)));
        calls.add(new Refused("slice 100", ARGUMENT, x -> x.send(0, 's', 20, 5, 100)));
        calls.add(new Refused("all wrong", ARGUMENT, x -> x.send(-1, 'x', -1, -1, -1)));
        calls.add(new Refused("owner -1 of a stop", ARGUMENT, x -> x.sendStop(-1, 'b', 20, 20, 5)));
        calls.add(new Refused("owner 6 of a stop", ARGUMENT, x -> x.sendStop(6, 'b', 20, 20, 5)));
        calls.add(new Refused("side B of a stop", ARGUMENT, x -> x.sendStop(0, 'B', 20, 20, 5)));
        calls.add(new Refused("trigger 0", ARGUMENT, x -> x.sendStop(0, 'b', 0, 20, 5)));
        calls.add(new Refused("trigger 199", ARGUMENT, x -> x.sendStop(0, 'b', 199, 20, 5)));
        calls.add(new Refused("trigger 301", ARGUMENT, x -> x.sendStop(0, 'b', 301, 20, 5)));
        calls.add(new Refused("price 0 of a stop", ARGUMENT, x -> x.sendStop(0, 'b', 20, 0, 5)));
        calls.add(new Refused("price 201 of a stop", ARGUMENT, x -> x.sendStop(0, 'b', 20, 201, 5)));
        calls.add(new Refused("price 301 of a stop", ARGUMENT, x -> x.sendStop(0, 'b', 20, 301, 5)));
        calls.add(new Refused("amount 0 of a stop", ARGUMENT, x -> x.sendStop(0, 'b', 20, 20, 0)));
        calls.add(new Refused("amount 100 of a stop", ARGUMENT, x -> x.sendStop(0, 'b', 20, 20, 100)));
    }

    private static void wrongSettings(List<Refused> calls) {
        calls.add(new Refused("band -1", ARGUMENT, x -> x.setBand(-1)));
        calls.add(new Refused("band 51", ARGUMENT, x -> x.setBand(51)));
        calls.add(new Refused("rule x", ARGUMENT, x -> x.setRule('x')));
        calls.add(new Refused("rule R", ARGUMENT, x -> x.setRule('R')));
    }

    private static void noOrder(List<Refused> calls, int number) {
        calls.add(new Refused("cancel " + number, NONE, x -> x.cancel(number)));
        calls.add(new Refused("reduce " + number, NONE, x -> x.reduce(number, 1)));
        calls.add(new Refused("reduce " + number + " to 0", NONE, x -> x.reduce(number, 0)));
        calls.add(new Refused("reduce " + number + " to 99", NONE, x -> x.reduce(number, 99)));
        calls.add(new Refused("stateOf " + number, NONE, x -> x.stateOf(number)));
        calls.add(new Refused("leftOf " + number, NONE, x -> x.leftOf(number)));
        calls.add(new Refused("shownOf " + number, NONE, x -> x.shownOf(number)));
        calls.add(new Refused("filledShare " + number, NONE, x -> x.filledShare(number)));
    }

    private static void wrongByState(List<Refused> calls, int number, char state, int left) {
        String what = number + " of state " + state;
        calls.add(new Refused("reduce " + what + " to 0", ARGUMENT, x -> x.reduce(number, 0)));
        calls.add(new Refused("reduce " + what + " to -7", ARGUMENT, x -> x.reduce(number, -7)));
        int least = Math.max(left, 1);
        calls.add(new Refused("reduce " + what + " to what is left", STATE, x -> x.reduce(number, least)));
        calls.add(new Refused("reduce " + what + " to more", STATE, x -> x.reduce(number, least + 1)));
        if (state == 'f' || state == 'c') {
            calls.add(new Refused("cancel " + what, STATE, x -> x.cancel(number)));
            calls.add(new Refused("reduce " + what + " to 1", STATE, x -> x.reduce(number, 1)));
        }
        if (state != 'a') {
            calls.add(new Refused("shownOf " + what, STATE, x -> x.shownOf(number)));
        }
    }

    private static void wrongSides(List<Refused> calls) {
        calls.add(new Refused("levels x", ARGUMENT, x -> x.levels('x')));
        for (int level : new int[] {-1, 0, 60}) {
            calls.add(new Refused("levelPrice x " + level, ARGUMENT, x -> x.levelPrice('x', level)));
            calls.add(new Refused("shownAt x " + level, ARGUMENT, x -> x.shownAt('x', level)));
            calls.add(new Refused("leftAt x " + level, ARGUMENT, x -> x.leftAt('x', level)));
            calls.add(new Refused("ordersAt x " + level, ARGUMENT, x -> x.ordersAt('x', level)));
            calls.add(new Refused("orderAt x " + level, ARGUMENT, x -> x.orderAt('x', level, 0)));
            calls.add(new Refused("orderAt x " + level + " -1", ARGUMENT, x -> x.orderAt('x', level, -1)));
        }
    }

    private static void wrongLevels(List<Refused> calls, char side, int levels) {
        for (int level : new int[] {-1, levels, levels + 1}) {
            String what = " " + side + " " + level;
            calls.add(new Refused("levelPrice" + what, NONE, x -> x.levelPrice(side, level)));
            calls.add(new Refused("shownAt" + what, NONE, x -> x.shownAt(side, level)));
            calls.add(new Refused("leftAt" + what, NONE, x -> x.leftAt(side, level)));
            calls.add(new Refused("ordersAt" + what, NONE, x -> x.ordersAt(side, level)));
            calls.add(new Refused("orderAt" + what, NONE, x -> x.orderAt(side, level, 0)));
            calls.add(new Refused("orderAt" + what + " -1", NONE, x -> x.orderAt(side, level, -1)));
        }
    }

    private static void wrongPlaces(List<Refused> calls, MatchFloor like) {
        for (char side : new char[] {'b', 's'}) {
            for (int level = 0; level < like.levels(side); level++) {
                int rank = level;
                int orders = like.ordersAt(side, level);
                for (int place : new int[] {-1, orders, orders + 1}) {
                    calls.add(new Refused("orderAt " + side + " " + level + " " + place, PLACE,
                            x -> x.orderAt(side, rank, place)));
                }
            }
        }
    }

    private static void wrongRanks(List<Refused> calls, int kept) {
        for (int rank : new int[] {-1, kept, kept + 1}) {
            calls.add(new Refused("tradePrice " + rank, NONE, x -> x.tradePrice(rank)));
            calls.add(new Refused("tradeAmount " + rank, NONE, x -> x.tradeAmount(rank)));
            calls.add(new Refused("tradeBuyer " + rank, NONE, x -> x.tradeBuyer(rank)));
            calls.add(new Refused("tradeSeller " + rank, NONE, x -> x.tradeSeller(rank)));
        }
    }

    private static void wrongQuestions(List<Refused> calls, MatchFloor like) {
        calls.add(new Refused("volumeAt 0", ARGUMENT, x -> x.volumeAt(0)));
        calls.add(new Refused("volumeAt 101", ARGUMENT, x -> x.volumeAt(101)));
        calls.add(new Refused("volumeAt 301", ARGUMENT, x -> x.volumeAt(301)));
        if (like.levels('b') == 0 || like.levels('s') == 0) {
            calls.add(new Refused("spread", NONE, x -> x.spread()));
        }
        boolean crossed = like.levels('b') > 0 && like.levels('s') > 0
                && like.levelPrice('b', 0) >= like.levelPrice('s', 0);
        if (!crossed) {
            calls.add(new Refused("auctionPrice", NONE, x -> x.auctionPrice()));
            calls.add(new Refused("auctionPriceByTrying", NONE, x -> x.auctionPriceByTrying()));
        }
        if (like.tradeCount() == 0) {
            calls.add(new Refused("meanPrice", ArithmeticException.class, x -> x.meanPrice()));
        }
    }

    /** All refused calls, one after the other, and then calls that are not. */
    private static void goesOnAsBefore(String state, Refusal.Story story) {
        MatchFloor left = new MatchFloor();
        MatchFloor refused = new MatchFloor();
        story.tell(left);
        story.tell(refused);
        for (Refused one : refusedCalls(left)) {
            checks.throwing(state + ": " + one.what, one.due, () -> one.call.tell(refused));
        }
        for (MatchFloor x : new MatchFloor[] {left, refused}) {
            checks.same("the next number", x.send(1, 's', 20, 9, 9), x.orderCount() - 1);
            x.send(1, 'b', 26, 9, 9);
            if (!x.isHalted()) {
                x.halt();
            }
            x.auction();
        }
        checks.same(state + ": what comes later", Look.at(refused), Look.at(left));
    }

    private static void telling() {
        MatchFloor x = new MatchFloor();
        haltedBook(x);
        String first = Look.at(x);
        x.auctionPriceByTrying();
        x.volumeAt(20);
        x.meanPrice();
        x.spread();
        checks.same("asked again", Look.at(x), first);
        checks.same("auction after it", x.auction(), 7);
    }
}

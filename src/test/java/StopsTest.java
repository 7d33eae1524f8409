/** Promise 3: stops wait for the price of the latest trade. */
public final class StopsTest {
    private static final Checks checks = new Checks("StopsTest");

    private StopsTest() {
    }

    public static void main(String[] args) {
        promise03Numbers();
        promise03Arguments();
        promise03Limit();
        promise03WaitsForTrade();
        promise03Triggers();
        promise03WaitsUntilAnOrderComesIn();
        promise03ComesInAsOrder();
        promise03LowestNumberFirst();
        promise03LatestTradeIsLookedAtAnew();
        promise03AfterCancelledOrder();
        promise03NotByOtherCalls();
        promise03NotWhileHalted();
        promise03HaltEndsIt();
        promise03AfterAuction();
        promise03ReducedStop();
        promise03OwnOrders();
        promise03AllStopsAtOnce();
        checks.end();
    }

    private static void promise03Numbers() {
        MatchFloor x = new MatchFloor();
        checks.same("first", x.sendStop(0, 'b', 30, 40, 6), 0);
        checks.same("second", x.sendStop(5, 's', 1, 300, 99), 1);
        checks.same("an order after them", x.send(1, 'b', 20, 1, 1), 2);
        checks.same("state", x.stateOf(0), 'w');
        checks.same("left", x.leftOf(1), 99);
        checks.same("not in the book", x.levels('s'), 0);
        checks.same("waiting", x.waiting(), 2);
    }

    private static void promise03Arguments() {
        MatchFloor x = new MatchFloor();
        for (int owner : new int[] {-1, 6, Integer.MIN_VALUE, Integer.MAX_VALUE}) {
            checks.illegalArgument("owner " + owner, () -> x.sendStop(owner, 'b', 20, 20, 5));
        }
        for (char side : new char[] {'x', 'w', 'B', 0}) {
            checks.illegalArgument("side " + (int) side, () -> x.sendStop(0, side, 20, 20, 5));
        }
        for (int price : new int[] {0, -5, 101, 199, 201, 299, 301, 305, Integer.MIN_VALUE, Integer.MAX_VALUE}) {
            checks.illegalArgument("trigger " + price, () -> x.sendStop(0, 'b', price, 20, 5));
            checks.illegalArgument("price " + price, () -> x.sendStop(0, 'b', 20, price, 5));
        }
        for (int amount : new int[] {0, -1, 100, Integer.MIN_VALUE, Integer.MAX_VALUE}) {
            checks.illegalArgument("amount " + amount, () -> x.sendStop(0, 'b', 20, 20, amount));
        }
        checks.same("nothing came", x.orderCount(), 0);
        int number = 0;
        for (int price : new int[] {1, 99, 100, 198, 200, 300}) {
            checks.same("trigger " + price, x.sendStop(0, 'b', price, 1, 1), number++);
            checks.same("price " + price, x.sendStop(5, 's', 1, price, 99), number++);
        }
    }

    private static void promise03Limit() {
        MatchFloor x = new MatchFloor();
        for (int i = 0; i < 60; i++) {
            checks.same("stop", x.sendStop(0, 'b', 300, 300, 1), i);
        }
        checks.illegalState("the 61st stop", () -> x.sendStop(0, 'b', 300, 300, 1));
        checks.illegalState("an order beside 60 stops", () -> x.send(0, 'b', 300, 1, 1));
        checks.illegalArgument("a wrong price comes first", () -> x.sendStop(0, 'b', 300, 0, 1));
        checks.illegalArgument("a wrong trigger comes first", () -> x.sendStop(0, 'b', 0, 300, 1));
        x.cancel(59);
        checks.same("one for the cancelled stop", x.sendStop(0, 'b', 300, 300, 1), 60);
    }

    /** A floor on which owners 4 and 5 traded 1 at the price. */
    private static MatchFloor traded(int price) {
        MatchFloor x = new MatchFloor();
        trade(x, price);
        return x;
    }

    private static void trade(MatchFloor x, int price) {
        x.send(4, 's', price, 1, 1);
        x.send(5, 'b', price, 1, 1);
    }

    private static void promise03WaitsForTrade() {
        MatchFloor x = new MatchFloor();
        x.sendStop(0, 'b', 1, 20, 6);
        x.sendStop(0, 's', 300, 30, 6);
        x.send(1, 'b', 10, 1, 1);
        checks.same("no trade has been made", x.waiting(), 2);
        x.send(2, 's', 10, 1, 1);
        checks.same("then one has", x.waiting(), 0);
        checks.same("to buy", Look.order(x, 0), "a 6/6 0.0");
        checks.same("to sell", Look.order(x, 1), "a 6/6 0.0");
    }

    private static void promise03Triggers() {
        int[][] cases = {{'b', 30, 29, 0}, {'b', 30, 30, 1}, {'b', 30, 31, 1}, {'s', 30, 31, 0}, {'s', 30, 30, 1},
            {'s', 30, 29, 1}, {'b', 1, 1, 1}, {'s', 300, 300, 1}, {'b', 300, 295, 0}, {'s', 1, 2, 0}};
        for (int[] one : cases) {
            MatchFloor x = new MatchFloor();
            x.sendStop(0, (char) one[0], one[1], 50, 3);
            trade(x, one[2]);
            String what = (char) one[0] + " with trigger " + one[1] + " at " + one[2];
            checks.same(what, x.stateOf(0), one[3] == 1 ? 'a' : 'w');
            checks.same(what + " waiting", x.waiting(), 1 - one[3]);
        }
    }

    private static void promise03WaitsUntilAnOrderComesIn() {
        MatchFloor x = traded(20);
        x.sendStop(0, 'b', 20, 15, 3);
        x.sendStop(1, 's', 20, 40, 3);
        checks.same("both could be set off but wait", x.waiting(), 2);
        x.sendStop(1, 's', 1, 40, 3);
        checks.same("a stop that is sent sets off none", x.waiting(), 3);
        x.send(2, 'b', 5, 1, 1);
        checks.same("an order does", x.waiting(), 1);
        checks.same("behind the order in time", Look.side(x, 'b'), "\nb 15: 3 of 3 [2]\nb 5: 1 of 1 [5]");
        checks.same("to sell", Look.side(x, 's'), "\ns 40: 3 of 3 [3]");
    }

    private static void promise03ComesInAsOrder() {
        MatchFloor x = traded(20);
        x.send(1, 's', 25, 4, 4);
        x.send(1, 's', 26, 4, 4);
        x.send(1, 's', 27, 4, 4);
        x.sendStop(0, 'b', 20, 26, 15);
        x.send(3, 'b', 2, 1, 1);
        checks.same("it trades at the levels", Look.trades(x), "4@26 b5 s3, 4@25 b5 s2, 1@20 b1 s0");
        checks.same("it shows all that is left", Look.order(x, 5), "a 7/7 " + 8f / 15f);
        x.send(2, 's', 26, 3, 3);
        checks.same("its slice is what was left when it came in", Look.order(x, 5), "a 4/4 " + 11f / 15f);
    }

    private static void promise03LowestNumberFirst() {
        MatchFloor x = new MatchFloor();
        x.sendStop(2, 'b', 22, 30, 1);
        x.sendStop(1, 'b', 20, 30, 1);
        x.sendStop(0, 'b', 20, 30, 1);
        x.send(3, 's', 24, 9, 9);
        trade(x, 20);
        checks.same("1 sets off 0, which comes before 2", Look.trades(x),
                "1@24 b2 s3, 1@24 b0 s3, 1@24 b1 s3, 1@20 b5 s4");
        MatchFloor y = new MatchFloor();
        y.sendStop(0, 'b', 20, 25, 1);
        y.sendStop(1, 's', 20, 40, 1);
        y.sendStop(2, 'b', 20, 25, 1);
        trade(y, 20);
        checks.same("time is the number", Look.side(y, 'b'), "\nb 25: 2 of 2 [0, 2]");
    }

    private static void promise03LatestTradeIsLookedAtAnew() {
        MatchFloor x = new MatchFloor();
        x.sendStop(0, 'b', 20, 30, 2);
        x.sendStop(1, 's', 20, 40, 1);
        x.sendStop(2, 'b', 25, 30, 1);
        x.send(3, 's', 25, 3, 3);
        trade(x, 20);
        checks.same("0 trades at 25", Look.trades(x), "1@25 b2 s3, 2@25 b0 s3, 1@20 b5 s4");
        checks.same("so 1 waits though the order traded at 20", x.stateOf(1), 'w');
        checks.same("and 2 does not", x.stateOf(2), 'f');
    }

    private static void promise03AfterCancelledOrder() {
        MatchFloor x = traded(20);
        x.send(0, 's', 30, 1, 1);
        x.setRule('i');
        x.sendStop(1, 'b', 20, 10, 1);
        x.send(0, 'b', 30, 1, 1);
        checks.same("the order is cancelled", x.stateOf(4), 'c');
        checks.same("it has come in as well", x.stateOf(3), 'a');
    }

    private static void promise03NotByOtherCalls() {
        MatchFloor x = traded(20);
        x.send(0, 'b', 5, 9, 9);
        x.sendStop(1, 'b', 20, 10, 5);
        x.reduce(2, 3);
        x.reduce(3, 4);
        x.cancel(2);
        x.setBand(5);
        x.setRule('i');
        x.halt();
        checks.same("it waits", x.stateOf(3), 'w');
    }

    private static void promise03NotWhileHalted() {
        MatchFloor x = traded(20);
        x.sendStop(1, 'b', 20, 10, 5);
        x.halt();
        x.send(2, 'b', 8, 1, 1);
        checks.same("it waits while the floor is halted", x.stateOf(2), 'w');
        checks.same("a stop can be sent then", x.sendStop(1, 'b', 20, 10, 5), 4);
        checks.same("the other order is in the book", x.stateOf(3), 'a');
    }

    private static void promise03HaltEndsIt() {
        MatchFloor x = traded(20);
        x.setBand(10);
        x.send(0, 's', 30, 2, 2);
        x.sendStop(1, 'b', 20, 30, 3);
        x.sendStop(2, 'b', 20, 30, 4);
        x.send(3, 'b', 5, 1, 1);
        checks.holds("the stop halts the floor", x.isHalted());
        checks.same("it is in the book", Look.order(x, 3), "a 3/3 0.0");
        checks.same("the next one waits", x.stateOf(4), 'w');
        MatchFloor y = traded(20);
        y.setBand(10);
        y.send(0, 's', 30, 2, 2);
        y.sendStop(1, 'b', 20, 10, 3);
        y.send(3, 'b', 30, 1, 1);
        checks.same("an order that halts sets off none", y.stateOf(3), 'w');
    }

    private static void promise03AfterAuction() {
        MatchFloor x = new MatchFloor();
        x.send(0, 's', 20, 5, 5);
        x.halt();
        x.send(1, 'b', 20, 5, 5);
        x.sendStop(2, 'b', 20, 15, 3);
        x.sendStop(2, 'b', 21, 15, 3);
        checks.same("the auction trades", x.auction(), 5);
        checks.same("and sets off", Look.order(x, 2), "a 3/3 0.0");
        checks.same("but not what has another trigger", x.stateOf(3), 'w');
        MatchFloor y = traded(20);
        y.sendStop(2, 'b', 20, 15, 3);
        y.halt();
        checks.same("an auction without a price", y.auction(), 0);
        checks.same("sets off as well", y.stateOf(2), 'a');
        MatchFloor z = traded(20);
        z.setBand(10);
        z.send(0, 's', 30, 1, 1);
        z.sendStop(1, 'b', 20, 30, 3);
        z.sendStop(2, 'b', 20, 30, 3);
        z.halt();
        checks.same("no price", z.auction(), 0);
        checks.holds("a stop after an auction can halt again", z.isHalted());
        checks.same("the next one waits", z.waiting(), 1);
    }

    private static void promise03ReducedStop() {
        MatchFloor x = traded(20);
        x.sendStop(1, 'b', 20, 15, 9);
        checks.same("what was left", x.reduce(2, 4), 9);
        x.send(2, 'b', 2, 1, 1);
        checks.same("it comes in with what is left", Look.order(x, 2), "a 4/4 0.0");
        x.halt();
        x.send(3, 's', 15, 3, 3);
        x.auction();
        checks.same("its slice is what was left", Look.order(x, 2), "a 1/1 " + 3f / 9f);
    }

    private static void promise03OwnOrders() {
        MatchFloor x = traded(20);
        x.send(1, 's', 25, 4, 4);
        x.sendStop(1, 'b', 20, 25, 9);
        x.send(2, 'b', 2, 1, 1);
        checks.same("by the rule 'r' the one in the book is cancelled", x.stateOf(2), 'c');
        checks.same("and the stop comes into the book", Look.order(x, 3), "a 9/9 0.0");
        MatchFloor y = traded(20);
        y.setRule('i');
        y.send(1, 's', 25, 4, 4);
        y.sendStop(1, 'b', 20, 25, 9);
        y.send(2, 'b', 2, 1, 1);
        checks.same("by the rule 'i' the other one stays", y.stateOf(2), 'a');
        checks.same("and the stop is cancelled", Look.order(y, 3), "c 9 0.0");
    }

    private static void promise03AllStopsAtOnce() {
        MatchFloor x = traded(20);
        for (int i = 0; i < 59; i++) {
            x.sendStop(i % 3, 'b', 1, 60 - i, 1);
        }
        x.send(3, 's', 1, 99, 99);
        checks.same("none waits", x.waiting(), 0);
        checks.same("each one traded", x.tradeCount(), 60);
        checks.same("the last one", Look.trade(x, 0), "1@1 b60 s61");
        checks.same("one by one", Look.trade(x, 49), "1@1 b11 s61");
    }
}

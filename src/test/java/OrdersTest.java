/** Promises 4 to 15: what is done with orders that have come, and what is told of them. */
public final class OrdersTest {
    private static final Checks checks = new Checks("OrdersTest");
    private static final int[] NO_ORDERS = {-1, 2, 3, 60, 512, Integer.MIN_VALUE, Integer.MAX_VALUE};

    private OrdersTest() {
    }

    public static void main(String[] args) {
        promise04Cancel();
        promise04CancelKeepsOthers();
        promise04CancelWrong();
        promise05Reduce();
        promise05ReduceKeepsPlace();
        promise05ReduceWrong();
        promise06SetBand();
        promise07SetRule();
        promise08Halt();
        promise09Auction();
        promise09AuctionHolding();
        promise09AuctionSlicesAtTheirPlaces();
        promise09AuctionOfOneOwner();
        promise09AuctionWithoutBand();
        promise09AuctionTradesEverywhere();
        promise10IsHalted();
        promise11StateOf();
        promise12LeftOf();
        promise13ShownOf();
        promise14FilledShare();
        promise15OrderCount();
        checks.end();
    }

    private static void promise04Cancel() {
        MatchFloor x = new MatchFloor();
        x.send(0, 's', 20, 10, 3);
        x.send(1, 'b', 20, 4, 4);
        x.sendStop(2, 'b', 50, 60, 8);
        checks.same("what was left", x.cancel(0), 6);
        checks.same("state", Look.order(x, 0), "c 6 0.4");
        checks.same("not in the book", x.levels('s'), 0);
        checks.same("a stop", x.cancel(2), 8);
        checks.same("its state", Look.order(x, 2), "c 8 0.0");
        checks.same("none waits", x.waiting(), 0);
        x.send(3, 'b', 60, 1, 1);
        x.send(4, 's', 60, 1, 1);
        checks.same("a cancelled stop does not come in", x.stateOf(2), 'c');
        checks.same("and does not trade", x.tradeBuyer(0), 3);
        x.halt();
        x.send(3, 'b', 60, 5, 1);
        checks.same("while the floor is halted", x.cancel(5), 5);
        checks.holds("it stays halted", x.isHalted());
    }

    private static void promise04CancelKeepsOthers() {
        MatchFloor x = new MatchFloor();
        for (int i = 0; i < 5; i++) {
            x.send(0, 'b', 20, 5, 5);
            x.send(1, 's', 30, 5, 5);
        }
        x.cancel(4);
        checks.same("one in the middle", Look.side(x, 'b'), "\nb 20: 20 of 20 [0, 2, 6, 8]");
        x.cancel(0);
        checks.same("the first one", Look.side(x, 'b'), "\nb 20: 15 of 15 [2, 6, 8]");
        x.cancel(9);
        checks.same("the last one", Look.side(x, 's'), "\ns 30: 20 of 20 [1, 3, 5, 7]");
        x.send(2, 's', 30, 1, 1);
        checks.same("one behind them", Look.side(x, 's'), "\ns 30: 21 of 21 [1, 3, 5, 7, 10]");
    }

    private static void promise04CancelWrong() {
        MatchFloor x = new MatchFloor();
        checks.noSuch("no order", () -> x.cancel(0));
        x.send(0, 's', 20, 1, 1);
        x.send(1, 'b', 20, 2, 2);
        for (int order : NO_ORDERS) {
            checks.noSuch("cancel " + order, () -> x.cancel(order));
        }
        checks.illegalState("a filled order", () -> x.cancel(0));
        x.cancel(1);
        checks.illegalState("a cancelled order", () -> x.cancel(1));
        checks.same("left stays", x.leftOf(1), 1);
    }

    private static void promise05Reduce() {
        MatchFloor x = new MatchFloor();
        x.send(0, 's', 20, 10, 4);
        checks.same("what was left before", x.reduce(0, 9), 10);
        checks.same("more is left than shown", Look.order(x, 0), "a 9/4 0.0");
        checks.same("before", x.reduce(0, 4), 9);
        checks.same("as much as shown", Look.order(x, 0), "a 4/4 0.0");
        checks.same("before", x.reduce(0, 3), 4);
        checks.same("it shows no more than what is left", Look.order(x, 0), "a 3/3 0.0");
        x.send(1, 'b', 20, 2, 2);
        checks.same("shares are of the first amount", Look.order(x, 0), "a 1/1 0.2");
        x.sendStop(2, 'b', 50, 60, 8);
        checks.same("a stop", x.reduce(2, 1), 8);
        checks.same("what is left of it", Look.order(x, 2), "w 1 0.0");
        x.send(3, 's', 22, 9, 4);
        x.send(4, 'b', 22, 3, 3);
        checks.same("a shown part stays", x.reduce(3, 3), 7);
        checks.same("shown", x.shownOf(3), 2);
    }

    private static void promise05ReduceKeepsPlace() {
        MatchFloor x = new MatchFloor();
        x.send(0, 'b', 20, 5, 5);
        x.send(1, 'b', 20, 5, 5);
        x.reduce(0, 1);
        checks.same("still first", Look.side(x, 'b'), "\nb 20: 6 of 6 [0, 1]");
        x.send(2, 's', 20, 2, 2);
        checks.same("and traded first", Look.trades(x), "1@20 b1 s2, 1@20 b0 s2");
    }

    private static void promise05ReduceWrong() {
        MatchFloor x = new MatchFloor();
        checks.noSuch("no order", () -> x.reduce(0, 0));
        x.send(0, 's', 20, 5, 5);
        x.send(1, 'b', 20, 8, 8);
        for (int order : NO_ORDERS) {
            checks.noSuch("reduce " + order, () -> x.reduce(order, 1));
            checks.noSuch("reduce " + order + " comes first", () -> x.reduce(order, 0));
        }
        for (int left : new int[] {0, -1, Integer.MIN_VALUE}) {
            checks.illegalArgument("to " + left, () -> x.reduce(1, left));
            checks.illegalArgument("to " + left + " of a filled order", () -> x.reduce(0, left));
        }
        for (int left : new int[] {3, 4, 8, 99, Integer.MAX_VALUE}) {
            checks.illegalState("to " + left, () -> x.reduce(1, left));
        }
        checks.illegalState("a filled order", () -> x.reduce(0, 1));
        x.cancel(1);
        checks.illegalState("a cancelled order", () -> x.reduce(1, 1));
        checks.illegalArgument("a cancelled order to 0", () -> x.reduce(1, 0));
        x.sendStop(2, 'b', 50, 60, 8);
        checks.illegalState("a stop to as much", () -> x.reduce(2, 8));
        checks.illegalArgument("a stop to 0", () -> x.reduce(2, 0));
        checks.same("a stop", x.reduce(2, 7), 8);
    }

    private static void promise06SetBand() {
        MatchFloor x = new MatchFloor();
        checks.same("none at first", x.setBand(50), 0);
        checks.same("the one before", x.setBand(1), 50);
        for (int band : new int[] {-1, 51, 100, Integer.MIN_VALUE, Integer.MAX_VALUE}) {
            checks.illegalArgument("band " + band, () -> x.setBand(band));
        }
        checks.same("a wrong one changes nothing", x.setBand(0), 1);
        checks.same("none again", x.setBand(10), 0);
        x.send(0, 's', 20, 1, 1);
        x.send(1, 'b', 20, 1, 1);
        x.send(0, 's', 30, 1, 1);
        checks.same("a wider band", x.setBand(50), 10);
        x.send(1, 'b', 30, 1, 1);
        checks.fails("holds at once", x.isHalted());
        x.halt();
        checks.same("while the floor is halted", x.setBand(0), 50);
        checks.holds("it stays halted", x.isHalted());
    }

    private static void promise07SetRule() {
        MatchFloor x = new MatchFloor();
        checks.same("'r' at first", x.setRule('r'), 'r');
        checks.same("still 'r'", x.setRule('i'), 'r');
        for (char rule : new char[] {'x', 'R', 'I', 'b', 0, (char) 65535}) {
            checks.illegalArgument("rule " + (int) rule, () -> x.setRule(rule));
        }
        checks.same("a wrong one changes nothing", x.setRule('i'), 'i');
        x.send(0, 's', 20, 1, 1);
        x.send(0, 'b', 20, 1, 1);
        checks.same("by 'i' the one that comes in is cancelled", x.stateOf(1), 'c');
        checks.same("the one before", x.setRule('r'), 'i');
        x.send(0, 'b', 20, 1, 1);
        checks.same("by 'r' the one in the book", x.stateOf(0), 'c');
    }

    private static void promise08Halt() {
        MatchFloor x = new MatchFloor();
        x.send(0, 's', 20, 5, 5);
        x.send(0, 's', 21, 5, 5);
        x.send(1, 'b', 20, 5, 5);
        x.send(1, 'b', 19, 5, 5);
        x.send(1, 'b', 19, 5, 5);
        x.cancel(4);
        x.sendStop(2, 'b', 50, 60, 5);
        checks.same("active orders of both sides", x.halt(), 2);
        checks.holds("halted", x.isHalted());
        checks.illegalState("halt again", () -> x.halt());
        checks.holds("still halted", x.isHalted());
        x.auction();
        checks.fails("open", x.isHalted());
        checks.same("again", x.halt(), 2);
        MatchFloor y = new MatchFloor();
        checks.same("an empty floor", y.halt(), 0);
        MatchFloor z = new MatchFloor();
        z.setBand(10);
        z.send(0, 's', 20, 1, 1);
        z.send(1, 'b', 20, 1, 1);
        z.send(0, 's', 30, 1, 1);
        z.send(1, 'b', 30, 1, 1);
        checks.illegalState("a floor halted by its band", () -> z.halt());
    }

    private static void promise09Auction() {
        MatchFloor x = new MatchFloor();
        checks.illegalState("an open floor", () -> x.auction());
        x.halt();
        checks.same("without orders", x.auction(), 0);
        checks.fails("opens", x.isHalted());
        checks.illegalState("open again", () -> x.auction());
        x.send(0, 's', 30, 5, 5);
        x.send(1, 'b', 20, 5, 5);
        x.halt();
        checks.same("without a price", x.auction(), 0);
        checks.same("no trade", x.tradeCount(), 0);
        checks.same("orders stay", Look.side(x, 'b') + Look.side(x, 's'), "\nb 20: 5 of 5 [1]\ns 30: 5 of 5 [0]");
        x.halt();
        x.send(2, 'b', 30, 3, 3);
        checks.same("its volume", x.auction(), 3);
        checks.same("one trade", Look.trades(x), "3@30 b2 s0");
        checks.fails("opens", x.isHalted());
        checks.illegalState("open again", () -> x.auction());
    }

    private static void promise09AuctionHolding() {
        MatchFloor x = new MatchFloor();
        x.halt();
        x.send(0, 'b', 30, 4, 1);
        x.send(1, 'b', 32, 3, 1);
        x.send(2, 'b', 30, 9, 9);
        x.send(3, 's', 25, 5, 2);
        x.send(4, 's', 21, 6, 6);
        x.send(5, 's', 33, 9, 9);
        checks.same("price", x.auctionPrice(), 25);
        checks.same("volume", x.auction(), 11);
        checks.same("best ones first, all that is left, at one price", Look.trades(x),
                "4@25 b2 s3, 1@25 b0 s3, 3@25 b0 s4, 3@25 b1 s4");
        checks.same("the rest", Look.side(x, 'b') + Look.side(x, 's'), "\nb 30: 5 of 5 [2]\ns 33: 9 of 9 [5]");
        checks.same("filled", "" + x.stateOf(0) + x.stateOf(1) + x.stateOf(2) + x.stateOf(3) + x.stateOf(4), "ffaff");
        checks.same("volume", x.volume(), 11);
    }

    private static void promise09AuctionSlicesAtTheirPlaces() {
        MatchFloor x = new MatchFloor();
        x.send(0, 's', 20, 12, 5);
        x.send(1, 's', 20, 9, 4);
        x.send(2, 'b', 20, 2, 2);
        x.send(2, 's', 22, 9, 4);
        x.reduce(3, 7);
        x.send(3, 's', 23, 9, 4);
        x.send(4, 'b', 15, 8, 5);
        x.send(3, 's', 15, 3, 3);
        checks.same("part of a slice", x.shownOf(0), 3);
        checks.same("part of a slice", x.shownOf(5), 2);
        x.halt();
        x.send(4, 'b', 20, 4, 4);
        checks.same("volume", x.auction(), 4);
        checks.same("met in part: a slice at its place", Look.order(x, 0), "a 6/5 0.5");
        checks.same("the level", Look.side(x, 's'), "\ns 20: 9 of 15 [0, 1]\ns 22: 4 of 7 [3]\ns 23: 4 of 9 [4]");
        checks.same("one that was not met shows its slice", Look.order(x, 5), "a 5/5 0.375");
        x.send(2, 'b', 20, 3, 3);
        x.halt();
        checks.same("no price", x.auction(), 0);
        checks.same("what is left if that is less", Look.order(x, 0), "a 3/3 0.75");
        x.send(2, 'b', 20, 1, 1);
        checks.same("shows less", x.shownOf(0), 2);
        x.halt();
        x.auction();
        checks.same("what is left", Look.order(x, 0), "a 2/2 " + 10f / 12f);
    }

    private static void promise09AuctionOfOneOwner() {
        MatchFloor x = new MatchFloor();
        x.halt();
        x.send(0, 's', 20, 5, 5);
        x.send(0, 'b', 20, 5, 5);
        x.setRule('i');
        checks.same("whoever owns them", x.auction(), 5);
        checks.same("filled", "" + x.stateOf(0) + x.stateOf(1), "ff");
    }

    private static void promise09AuctionWithoutBand() {
        MatchFloor x = new MatchFloor();
        x.send(0, 's', 20, 1, 1);
        x.send(1, 'b', 20, 1, 1);
        x.setBand(1);
        x.halt();
        x.send(0, 's', 50, 5, 5);
        x.send(1, 'b', 60, 5, 5);
        checks.same("the band is no matter", x.auction(), 5);
        checks.fails("open", x.isHalted());
        x.send(0, 's', 51, 1, 1);
        x.send(1, 'b', 51, 1, 1);
        checks.holds("the band looks at the trade of the auction", x.isHalted());
        checks.same("latest price", x.tradePrice(0), 50);
    }

    private static void promise09AuctionTradesEverywhere() {
        MatchFloor x = new MatchFloor();
        x.halt();
        for (int i = 0; i < 30; i++) {
            x.send(0, 'b', 50, 98, 1);
            x.send(1, 's', 40, 97, 1);
        }
        checks.same("volume", x.auction(), 30 * 97);
        checks.same("trades", x.tradeCount(), 59);
        checks.same("rest", Look.side(x, 'b') + Look.side(x, 's'), "\nb 50: 1 of 30 [58]");
    }

    private static void promise10IsHalted() {
        MatchFloor x = new MatchFloor();
        checks.fails("a new floor", x.isHalted());
        x.send(0, 's', 20, 1, 1);
        checks.fails("after an order", x.isHalted());
        x.halt();
        checks.holds("after halt", x.isHalted());
        x.send(1, 'b', 20, 1, 1);
        checks.holds("after an order", x.isHalted());
        x.auction();
        checks.fails("after an auction", x.isHalted());
        x.setBand(1);
        x.send(0, 's', 40, 1, 1);
        x.send(1, 'b', 40, 1, 1);
        checks.holds("by the band", x.isHalted());
    }

    private static void promise11StateOf() {
        MatchFloor x = new MatchFloor();
        checks.noSuch("no order", () -> x.stateOf(0));
        x.send(0, 's', 20, 4, 2);
        x.sendStop(1, 'b', 20, 20, 1);
        for (int order : NO_ORDERS) {
            checks.noSuch("stateOf " + order, () -> x.stateOf(order));
        }
        checks.same("active", x.stateOf(0), 'a');
        checks.same("waiting", x.stateOf(1), 'w');
        x.send(2, 'b', 20, 1, 1);
        checks.same("active", x.stateOf(0), 'a');
        checks.same("filled as a stop", x.stateOf(1), 'f');
        checks.same("filled at once", x.stateOf(2), 'f');
        x.cancel(0);
        checks.same("cancelled", x.stateOf(0), 'c');
    }

    private static void promise12LeftOf() {
        MatchFloor x = new MatchFloor();
        checks.noSuch("no order", () -> x.leftOf(0));
        x.send(0, 's', 20, 4, 2);
        x.sendStop(1, 'b', 30, 20, 7);
        for (int order : NO_ORDERS) {
            checks.noSuch("leftOf " + order, () -> x.leftOf(order));
        }
        checks.same("active", x.leftOf(0), 4);
        checks.same("waiting", x.leftOf(1), 7);
        x.send(2, 'b', 20, 3, 3);
        checks.same("traded", x.leftOf(0), 1);
        checks.same("filled", x.leftOf(2), 0);
        x.cancel(0);
        x.cancel(1);
        checks.same("what was left then", x.leftOf(0), 1);
        checks.same("what was left of the stop", x.leftOf(1), 7);
    }

    private static void promise13ShownOf() {
        MatchFloor x = new MatchFloor();
        checks.noSuch("no order", () -> x.shownOf(0));
        x.send(0, 's', 20, 4, 3);
        x.sendStop(1, 'b', 30, 20, 7);
        for (int order : NO_ORDERS) {
            checks.noSuch("shownOf " + order, () -> x.shownOf(order));
        }
        checks.same("a slice", x.shownOf(0), 3);
        checks.illegalState("a stop", () -> x.shownOf(1));
        x.send(2, 'b', 20, 1, 1);
        checks.same("less", x.shownOf(0), 2);
        checks.illegalState("a filled order", () -> x.shownOf(2));
        x.cancel(0);
        checks.illegalState("a cancelled order", () -> x.shownOf(0));
        x.send(3, 's', 20, 2, 9);
        checks.same("what is left if that is less", x.shownOf(3), 2);
    }

    private static void promise14FilledShare() {
        MatchFloor x = new MatchFloor();
        checks.noSuch("no order", () -> x.filledShare(0));
        x.send(0, 's', 20, 7, 2);
        x.sendStop(1, 'b', 30, 20, 7);
        for (int order : NO_ORDERS) {
            checks.noSuch("filledShare " + order, () -> x.filledShare(order));
        }
        checks.same("none", x.filledShare(0), 0f);
        checks.same("of a stop", x.filledShare(1), 0f);
        x.send(2, 'b', 20, 3, 3);
        checks.same("three of seven", x.filledShare(0), 3f / 7f);
        checks.same("all", x.filledShare(2), 1f);
        x.reduce(0, 3);
        checks.same("of the first amount", x.filledShare(0), 3f / 7f);
        x.send(2, 'b', 20, 3, 3);
        checks.same("filled after it was made less", x.filledShare(0), 6f / 7f);
        checks.same("state", x.stateOf(0), 'f');
        x.send(0, 's', 20, 99, 2);
        x.send(2, 'b', 20, 1, 1);
        x.cancel(4);
        checks.same("cancelled", x.filledShare(4), 1f / 99f);
    }

    private static void promise15OrderCount() {
        MatchFloor x = new MatchFloor();
        checks.same("none", x.orderCount(), 0);
        x.send(0, 's', 20, 7, 2);
        checks.same("one", x.orderCount(), 1);
        x.sendStop(0, 's', 20, 20, 2);
        checks.same("a stop as well", x.orderCount(), 2);
        x.send(1, 'b', 20, 7, 7);
        checks.same("filled ones as well", x.orderCount(), 3);
        x.cancel(1);
        checks.same("cancelled ones as well", x.orderCount(), 3);
        checks.illegalArgument("a wrong order", () -> x.send(6, 's', 20, 7, 2));
        checks.same("is none", x.orderCount(), 3);
    }
}

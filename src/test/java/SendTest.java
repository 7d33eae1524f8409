/** Promises 1 and 2: a new floor, and orders that come in. */
public final class SendTest {
    private static final Checks checks = new Checks("SendTest");

    private SendTest() {
    }

    public static void main(String[] args) {
        promise01NewFloor();
        promise02Numbers();
        promise02Owner();
        promise02Side();
        promise02Price();
        promise02AmountAndSlice();
        promise02LimitOfLiveOrders();
        promise02LimitCountsStops();
        promise02ManyOrders();
        promise02BestLevelFirst();
        promise02SellerMeetsBestBuyer();
        promise02PriceNotWorse();
        promise02TimeAtLevel();
        promise02SlicesGoBehind();
        promise02SliceThatIsNotUsedUpStays();
        promise02IncomingTradesAllThatIsLeft();
        promise02RestShowsSlice();
        promise02RuleR();
        promise02RuleI();
        promise02RuleAfterTrades();
        promise02ManyMeetings();
        promise02BandStops();
        promise02BandEdge();
        promise02BandLooksAtLatestTrade();
        promise02BandNotForOwnOrders();
        promise02BandNeedsTrade();
        promise02BandOffForZero();
        promise02HaltedDoesNotMeet();
        checks.end();
    }

    private static void promise01NewFloor() {
        MatchFloor x = new MatchFloor();
        checks.same("orderCount", x.orderCount(), 0);
        checks.fails("isHalted", x.isHalted());
        checks.same("levels b", x.levels('b'), 0);
        checks.same("levels s", x.levels('s'), 0);
        checks.same("waiting", x.waiting(), 0);
        checks.same("tradeCount", x.tradeCount(), 0);
        checks.same("band", x.setBand(7), 0);
        checks.same("rule", x.setRule('i'), 'r');
        MatchFloor other = new MatchFloor();
        checks.same("band of another floor", other.setBand(0), 0);
        checks.same("rule of another floor", other.setRule('r'), 'r');
        checks.same("orders of one floor are not those of another", x.send(0, 'b', 20, 1, 1), 0);
        checks.same("orderCount of the other floor", other.orderCount(), 0);
    }

    private static void promise02Numbers() {
        MatchFloor x = new MatchFloor();
        checks.same("first number", x.send(0, 'b', 20, 5, 5), 0);
        checks.same("second number", x.send(1, 's', 30, 5, 5), 1);
        checks.same("a stop is numbered too", x.sendStop(1, 's', 20, 30, 5), 2);
        checks.same("fourth number", x.send(5, 'b', 21, 99, 99), 3);
        checks.same("a filled order has a number", x.send(2, 's', 21, 1, 1), 4);
        checks.same("number after it", x.send(2, 's', 40, 1, 1), 5);
    }

    private static void promise02Owner() {
        MatchFloor x = new MatchFloor();
        for (int owner : new int[] {-1, 6, 7, Integer.MIN_VALUE, Integer.MAX_VALUE}) {
            checks.illegalArgument("owner " + owner, () -> x.send(owner, 'b', 20, 5, 5));
        }
        for (int owner = 0; owner <= 5; owner++) {
            checks.same("owner " + owner, x.send(owner, 'b', 20, 5, 5), owner);
        }
    }

    private static void promise02Side() {
        MatchFloor x = new MatchFloor();
        for (char side : new char[] {'x', 'B', 'S', 'a', 0, 'r', (char) 65535}) {
            checks.illegalArgument("side " + (int) side, () -> x.send(0, side, 20, 5, 5));
        }
        x.send(0, 'b', 20, 5, 5);
        x.send(1, 's', 30, 5, 5);
        checks.same("buys", x.levelPrice('b', 0), 20);
        checks.same("sells", x.levelPrice('s', 0), 30);
    }

    private static void promise02Price() {
        int[] wrong = {0, -1, -20, 101, 103, 199, 201, 202, 204, 206, 299, 301, 302, 305, 1000,
            Integer.MIN_VALUE, Integer.MAX_VALUE};
        int[] right = {1, 2, 99, 100, 102, 198, 200, 205, 295, 300};
        MatchFloor x = new MatchFloor();
        for (int price : wrong) {
            checks.illegalArgument("price " + price, () -> x.send(0, 'b', price, 5, 5));
        }
        for (int price : right) {
            x.send(0, 'b', price, 5, 5);
            checks.same("price " + price, x.levelPrice('b', 0), price);
        }
    }

    private static void promise02AmountAndSlice() {
        MatchFloor x = new MatchFloor();
        for (int amount : new int[] {0, -1, 100, Integer.MIN_VALUE, Integer.MAX_VALUE}) {
            checks.illegalArgument("amount " + amount, () -> x.send(0, 'b', 20, amount, 5));
            checks.illegalArgument("slice " + amount, () -> x.send(0, 'b', 20, 5, amount));
        }
        checks.same("amount 1, slice 99", x.send(0, 'b', 20, 1, 99), 0);
        checks.same("shown", x.shownOf(0), 1);
        checks.same("amount 99, slice 1", x.send(0, 'b', 20, 99, 1), 1);
        checks.same("left", x.leftOf(1), 99);
        checks.same("shown", x.shownOf(1), 1);
    }

    private static void promise02LimitOfLiveOrders() {
        MatchFloor x = new MatchFloor();
        for (int i = 0; i < 60; i++) {
            checks.same("order", x.send(i % 6, 'b', 20 + i, 5, 5), i);
        }
        checks.illegalState("the 61st order", () -> x.send(0, 'b', 20, 5, 5));
        checks.illegalState("one that would be filled at once", () -> x.send(0, 's', 20, 1, 1));
        checks.illegalArgument("a wrong owner comes first", () -> x.send(6, 'b', 20, 5, 5));
        checks.illegalArgument("a wrong slice comes first", () -> x.send(0, 'b', 20, 5, 0));
        checks.same("orders", x.orderCount(), 60);
        x.cancel(7);
        checks.same("one for the cancelled one", x.send(0, 'b', 20, 5, 5), 60);
        checks.illegalState("no more", () -> x.send(0, 'b', 20, 5, 5));
        x.cancel(0);
        checks.same("one that fills another", x.send(1, 's', 79, 5, 5), 61);
        checks.same("gives room for two", x.send(1, 'b', 10, 5, 5), 62);
        checks.same("gives room for two", x.send(1, 'b', 10, 5, 5), 63);
        checks.illegalState("no more", () -> x.send(0, 'b', 20, 5, 5));
    }

    private static void promise02LimitCountsStops() {
        MatchFloor x = new MatchFloor();
        for (int i = 0; i < 30; i++) {
            x.send(0, 'b', 20, 1, 1);
            x.sendStop(1, 's', 50, 60, 1);
        }
        checks.illegalState("an order beside 30 orders and 30 stops", () -> x.send(0, 'b', 20, 1, 1));
        checks.illegalState("a stop beside 30 orders and 30 stops", () -> x.sendStop(0, 'b', 20, 20, 1));
        x.cancel(1);
        checks.same("one for the cancelled stop", x.send(0, 'b', 20, 1, 1), 60);
        checks.illegalState("no more", () -> x.send(0, 'b', 20, 1, 1));
    }

    private static void promise02ManyOrders() {
        MatchFloor x = new MatchFloor();
        for (int i = 0; i < 511; i++) {
            int number = x.send(i % 2, i % 2 == 0 ? 'b' : 's', 20, 5, 5);
            if (number != i) {
                checks.same("order " + i, number, i);
            }
        }
        checks.same("the last one before the 512th call was an order too", x.orderCount(), 511);
    }

    private static void promise02BestLevelFirst() {
        MatchFloor x = new MatchFloor();
        x.send(0, 's', 24, 2, 2);
        x.send(1, 's', 20, 2, 2);
        x.send(2, 's', 22, 2, 2);
        checks.same("number", x.send(3, 'b', 30, 5, 5), 3);
        checks.same("trades at the prices of the levels", Look.trades(x), "1@24 b3 s0, 2@22 b3 s2, 2@20 b3 s1");
        checks.same("filled", x.stateOf(3), 'f');
        checks.same("left in the book", Look.side(x, 's'), "\ns 24: 1 of 1 [0]");
        checks.same("nothing to buy", x.levels('b'), 0);
    }

    private static void promise02SellerMeetsBestBuyer() {
        MatchFloor x = new MatchFloor();
        x.send(0, 'b', 20, 2, 2);
        x.send(1, 'b', 24, 2, 2);
        x.send(2, 'b', 22, 2, 2);
        x.send(3, 's', 21, 9, 4);
        checks.same("trades", Look.trades(x), "2@22 b2 s3, 2@24 b1 s3");
        checks.same("rest", Look.side(x, 's'), "\ns 21: 4 of 5 [3]");
        checks.same("buyers", Look.side(x, 'b'), "\nb 20: 2 of 2 [0]");
    }

    private static void promise02PriceNotWorse() {
        MatchFloor x = new MatchFloor();
        x.send(0, 's', 20, 2, 2);
        x.send(1, 'b', 19, 1, 1);
        checks.same("19 does not buy at 20", x.tradeCount(), 0);
        x.send(1, 'b', 20, 1, 1);
        checks.same("20 buys at 20", x.tradeCount(), 1);
        x.send(2, 's', 20, 1, 1);
        checks.same("20 does not sell to 19", x.tradeCount(), 1);
        x.send(2, 's', 19, 1, 1);
        checks.same("19 sells to 19", x.tradeCount(), 2);
        checks.same("its price", x.tradePrice(0), 19);
    }

    private static void promise02TimeAtLevel() {
        MatchFloor x = new MatchFloor();
        x.send(4, 'b', 20, 1, 1);
        x.send(0, 'b', 20, 3, 3);
        x.send(2, 'b', 20, 3, 3);
        x.send(1, 'b', 20, 3, 3);
        checks.same("one behind the other", Look.side(x, 'b'), "\nb 20: 10 of 10 [0, 1, 2, 3]");
        x.send(5, 's', 20, 5, 5);
        checks.same("the first ones trade first", Look.trades(x), "1@20 b2 s4, 3@20 b1 s4, 1@20 b0 s4");
        checks.same("the one met in part stays first", Look.side(x, 'b'), "\nb 20: 5 of 5 [2, 3]");
    }

    private static void promise02SlicesGoBehind() {
        MatchFloor x = new MatchFloor();
        x.send(0, 's', 20, 10, 3);
        x.send(1, 's', 20, 4, 4);
        x.send(2, 's', 20, 5, 2);
        x.send(3, 's', 22, 5, 5);
        x.send(4, 'b', 20, 3, 3);
        checks.same("a slice is used up: the order goes behind", Look.side(x, 's'),
                "\ns 20: 9 of 16 [1, 2, 0]\ns 22: 5 of 5 [3]");
        checks.same("next slice", x.shownOf(0), 3);
        x.send(4, 'b', 20, 13, 1);
        checks.same("trades", Look.trades(x),
                "2@20 b5 s0, 2@20 b5 s2, 3@20 b5 s0, 2@20 b5 s2, 4@20 b5 s1, 3@20 b4 s0");
        checks.same("met in part", Look.order(x, 0), "a 2/1 0.8");
        checks.same("the last slice is what is left", Look.order(x, 2), "a 1/1 0.8");
        checks.same("the level", Look.side(x, 's'), "\ns 20: 2 of 3 [0, 2]\ns 22: 5 of 5 [3]");
    }

    private static void promise02SliceThatIsNotUsedUpStays() {
        MatchFloor x = new MatchFloor();
        x.send(0, 's', 20, 10, 4);
        x.send(1, 's', 20, 4, 4);
        x.send(2, 'b', 20, 3, 3);
        checks.same("shown is less", Look.order(x, 0), "a 7/1 0.3");
        checks.same("it stays first", x.orderAt('s', 0, 0), 0);
        x.send(2, 'b', 20, 1, 1);
        checks.same("a whole slice again", Look.order(x, 0), "a 6/4 0.4");
        checks.same("behind the other", x.orderAt('s', 0, 1), 0);
        x.send(2, 'b', 20, 4, 4);
        x.send(2, 'b', 20, 4, 4);
        checks.same("the next slice is what is left", Look.order(x, 0), "a 2/2 0.8");
    }

    private static void promise02IncomingTradesAllThatIsLeft() {
        MatchFloor x = new MatchFloor();
        x.send(0, 's', 20, 9, 9);
        x.send(1, 'b', 20, 7, 2);
        checks.same("the slice of the one that comes in is no bound", Look.trades(x), "7@20 b1 s0");
    }

    private static void promise02RestShowsSlice() {
        MatchFloor x = new MatchFloor();
        x.send(0, 's', 20, 2, 2);
        x.send(1, 'b', 20, 3, 3);
        x.send(2, 'b', 20, 9, 4);
        x.send(3, 's', 21, 1, 1);
        checks.same("the rest", Look.order(x, 1), "a 1/1 " + 2f / 3f);
        checks.same("a slice", Look.order(x, 2), "a 9/4 0.0");
        checks.same("last of its level", Look.side(x, 'b'), "\nb 20: 5 of 10 [1, 2]");
    }

    private static void promise02RuleR() {
        MatchFloor x = new MatchFloor();
        x.send(0, 's', 20, 9, 2);
        x.send(0, 's', 20, 1, 1);
        x.send(1, 's', 21, 2, 2);
        x.send(0, 'b', 21, 5, 5);
        checks.same("the one in the book is cancelled", Look.order(x, 0), "c 9 0.0");
        checks.same("so is the next one", Look.order(x, 1), "c 1 0.0");
        checks.same("the one that comes in goes on", Look.order(x, 3), "a 3/3 0.4");
        checks.same("trades", Look.trades(x), "2@21 b3 s2");
        checks.same("none to sell", x.levels('s'), 0);
    }

    private static void promise02RuleI() {
        MatchFloor x = new MatchFloor();
        x.setRule('i');
        x.send(0, 's', 20, 9, 2);
        x.send(0, 'b', 20, 5, 5);
        checks.same("the one in the book stays", Look.order(x, 0), "a 9/2 0.0");
        checks.same("the one that comes in is cancelled", Look.order(x, 1), "c 5 0.0");
        checks.same("not in the book", x.levels('b'), 0);
        x.send(0, 'b', 19, 5, 5);
        checks.same("an own order that is not met is no harm", x.stateOf(2), 'a');
    }

    private static void promise02RuleAfterTrades() {
        MatchFloor x = new MatchFloor();
        x.setRule('i');
        x.send(1, 'b', 20, 3, 3);
        x.send(0, 'b', 20, 4, 4);
        x.send(0, 's', 20, 8, 8);
        checks.same("cancelled with what was left", Look.order(x, 2), "c 5 0.375");
        checks.same("the own order stays", Look.order(x, 1), "a 4/4 0.0");
        x.setRule('r');
        x.send(2, 's', 20, 1, 1);
        x.send(0, 's', 20, 2, 2);
        checks.same("a traded one is cancelled with what is left", Look.order(x, 1), "c 3 0.25");
        checks.same("the other one comes into the book", Look.order(x, 4), "a 2/2 0.0");
    }

    private static void promise02ManyMeetings() {
        MatchFloor x = new MatchFloor();
        for (int i = 0; i < 58; i++) {
            x.send(0, 's', 1 + i, 99, 1);
        }
        x.send(1, 's', 300, 99, 1);
        checks.same("the sixtieth order", x.send(0, 'b', 300, 99, 99), 59);
        checks.same("traded with all slices of the other one", x.tradeCount(), 99);
        checks.same("filled", "" + x.stateOf(58) + x.stateOf(59), "ff");
        checks.same("all own orders are cancelled", "" + x.stateOf(0) + x.stateOf(57), "cc");
        checks.same("none to sell", x.levels('s'), 0);
        checks.same("none to buy", x.levels('b'), 0);
    }

    /** A floor with the given band on which one trade was made, at the price. */
    private static MatchFloor traded(int band, int price) {
        MatchFloor x = new MatchFloor();
        x.setBand(band);
        x.send(0, 's', price, 1, 1);
        x.send(1, 'b', price, 1, 1);
        return x;
    }

    private static void promise02BandStops() {
        MatchFloor x = traded(10, 20);
        x.send(0, 's', 22, 5, 2);
        x.send(0, 's', 25, 5, 2);
        x.send(2, 'b', 30, 9, 3);
        checks.holds("25 is too far from 22", x.isHalted());
        checks.same("it came into the book with what was left", Look.order(x, 4), "a 4/3 " + 5f / 9f);
        checks.same("to buy", Look.side(x, 'b'), "\nb 30: 3 of 4 [4]");
        checks.same("to sell", Look.side(x, 's'), "\ns 25: 2 of 5 [3]");
        checks.same("the latest trade", x.tradePrice(0), 22);
    }

    private static void promise02BandEdge() {
        int[][] cases = {{10, 20, 22, 0}, {10, 20, 23, 1}, {10, 20, 18, 0}, {10, 20, 17, 1}, {50, 3, 4, 0},
            {50, 3, 5, 1}, {1, 100, 100, 0}, {1, 100, 102, 1}, {2, 100, 102, 0}, {33, 3, 4, 1}, {34, 3, 4, 0},
            {34, 3, 2, 0}, {33, 3, 2, 1}, {50, 200, 300, 0}, {49, 200, 300, 1}, {50, 200, 100, 0}, {50, 200, 99, 1}};
        for (int[] one : cases) {
            MatchFloor x = traded(one[0], one[1]);
            boolean buys = one[2] >= one[1];
            x.send(3, buys ? 's' : 'b', one[2], 1, 1);
            x.send(4, buys ? 'b' : 's', one[2], 1, 1);
            String what = "band " + one[0] + " from " + one[1] + " to " + one[2];
            checks.same(what + " halts", x.isHalted() ? 1 : 0, one[3]);
            checks.same(what + " trades", x.tradeCount(), 2 - one[3]);
            checks.same(what + " fills", x.stateOf(3), one[3] == 1 ? 'a' : 'f');
        }
    }

    private static void promise02BandLooksAtLatestTrade() {
        MatchFloor x = traded(10, 20);
        x.send(3, 's', 22, 1, 1);
        x.send(3, 's', 24, 1, 1);
        x.send(3, 's', 26, 1, 1);
        x.send(3, 's', 29, 1, 1);
        x.send(4, 'b', 40, 9, 9);
        checks.holds("29 is too far from 26", x.isHalted());
        checks.same("step by step", Look.trades(x), "1@26 b6 s4, 1@24 b6 s3, 1@22 b6 s2, 1@20 b1 s0");
        checks.same("rest", x.leftOf(6), 6);
    }

    private static void promise02BandNotForOwnOrders() {
        MatchFloor x = traded(10, 20);
        x.send(3, 's', 50, 4, 4);
        x.send(3, 'b', 60, 5, 5);
        checks.fails("an own order does not halt", x.isHalted());
        checks.same("it is cancelled", x.stateOf(2), 'c');
        x.setRule('i');
        x.send(3, 's', 60, 5, 5);
        checks.fails("an own order does not halt by the rule 'i'", x.isHalted());
        checks.same("the one that comes in is cancelled", x.stateOf(4), 'c');
        checks.same("the other one stays", x.stateOf(3), 'a');
    }

    private static void promise02BandNeedsTrade() {
        MatchFloor x = new MatchFloor();
        x.setBand(1);
        x.send(0, 's', 300, 1, 1);
        x.send(1, 'b', 300, 1, 1);
        checks.fails("no trade has been made", x.isHalted());
        checks.same("it trades", x.tradeCount(), 1);
        x.send(0, 's', 5, 1, 1);
        x.send(1, 'b', 5, 1, 1);
        checks.holds("then one has", x.isHalted());
    }

    private static void promise02BandOffForZero() {
        MatchFloor x = traded(0, 300);
        x.send(2, 's', 1, 1, 1);
        x.send(3, 'b', 1, 1, 1);
        checks.fails("no band", x.isHalted());
        checks.same("trades", x.tradeCount(), 2);
    }

    private static void promise02HaltedDoesNotMeet() {
        MatchFloor x = new MatchFloor();
        x.send(0, 's', 20, 5, 5);
        x.halt();
        x.send(1, 'b', 30, 5, 2);
        x.send(0, 'b', 30, 3, 3);
        checks.same("no trade", x.tradeCount(), 0);
        checks.same("in the book", Look.side(x, 'b'), "\nb 30: 5 of 8 [1, 2]");
        checks.same("an own order stays", Look.order(x, 0), "a 5/5 0.0");
        checks.holds("still halted", x.isHalted());
    }
}

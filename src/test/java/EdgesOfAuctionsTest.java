/** The edges in the document's sentences on auctions, holding them, and its clarifications, one by one. */
public final class EdgesOfAuctionsTest {
    private static final Checks checks = new Checks("EdgesOfAuctionsTest");
    private static final int[][] NEIGHBOURS = {{1, 2}, {20, 21}, {98, 99}, {99, 100}, {100, 102}, {196, 198},
        {198, 200}, {200, 205}, {290, 295}, {295, 300}};

    private EdgesOfAuctionsTest() {
    }

    public static void main(String[] args) {
        demandAndSupplyAtEachPrice();
        noVolumeNoPrice();
        touchingOrCrossedByOne();
        greatestVolumeByOne();
        leastDifferenceByOne();
        lowestOfSeveral();
        pricesWithoutOrders();
        greatestAmounts();
        heldWithoutOrders();
        heldOnOneSide();
        lesserOfThree();
        lastTradeLeavesOne();
        firstOrdersOfTheBestLevels();
        whateverTheyShow();
        whoeverOwnsThem();
        bandIsNotLookedAt();
        slicesAfterwards();
        opensTheFloor();
        ownOrderWhateverTheBandIs();
        latestTradeOfTheOrderItself();
        latestTradeOfAnAuction();
        stopsAfterAuctions();
        checks.end();
    }

    /** A halted floor with orders {side, price, amount}, of the owners 0, 1, 2 and so on, in slices of 1. */
    private static MatchFloor halted(int[]... orders) {
        MatchFloor x = new MatchFloor();
        x.halt();
        for (int i = 0; i < orders.length; i++) {
            x.send(i % 6, (char) orders[i][0], orders[i][1], orders[i][2], 1);
        }
        return x;
    }

    private static void price(String what, MatchFloor x, int due, int volume) {
        checks.same(what + ": auctionPrice", x.auctionPrice(), due);
        checks.same(what + ": auctionPriceByTrying", x.auctionPriceByTrying(), due);
        checks.same(what + ": volumeAt", x.volumeAt(due), volume);
        checks.holds(what + ": isConsistent", x.isConsistent());
        checks.same(what + ": auction", x.auction(), volume);
        checks.same(what + ": tradePrice", x.tradePrice(0), due);
        checks.same(what + ": volume", x.volume(), volume);
    }

    private static void noPrice(String what, MatchFloor x) {
        checks.noSuch(what + ": auctionPrice", () -> x.auctionPrice());
        checks.noSuch(what + ": auctionPriceByTrying", () -> x.auctionPriceByTrying());
        checks.holds(what + ": isConsistent", x.isConsistent());
        for (int price : new int[] {1, 2, 20, 99, 100, 198, 200, 295, 300}) {
            checks.same(what + ": volumeAt " + price, x.volumeAt(price), 0);
        }
    }

    /** "all active orders to buy at this price or a greater one, ... to sell at this price or a lesser one". */
    private static void demandAndSupplyAtEachPrice() {
        for (int[] pair : NEIGHBOURS) {
            int low = pair[0];
            int high = pair[1];
            MatchFloor x = halted(new int[] {'b', low, 5}, new int[] {'s', 1, 99});
            checks.same("to buy at " + low, x.volumeAt(low), 5);
            checks.same("not at " + high, x.volumeAt(high), 0);
            MatchFloor y = halted(new int[] {'s', high, 5}, new int[] {'b', 300, 99});
            checks.same("to sell at " + high, y.volumeAt(high), 5);
            checks.same("not at " + low, y.volumeAt(low), 0);
        }
        MatchFloor z = halted(new int[] {'s', 1, 3}, new int[] {'b', 300, 4});
        for (int price : Prices.ALL) {
            checks.same("from end to end at " + price, z.volumeAt(price), 3);
        }
    }

    /** "There is none if the greatest volume is 0." */
    private static void noVolumeNoPrice() {
        noPrice("an empty floor", new MatchFloor());
        noPrice("an empty halted floor", halted());
        noPrice("only to buy", halted(new int[] {'b', 300, 99}));
        noPrice("only to sell", halted(new int[] {'s', 1, 99}));
        MatchFloor x = halted(new int[] {'s', 20, 5});
        x.sendStop(1, 'b', 1, 300, 5);
        noPrice("to buy there is only a stop", x);
        MatchFloor y = halted(new int[] {'s', 20, 5}, new int[] {'b', 20, 5});
        y.cancel(0);
        noPrice("what was to sell is cancelled", y);
        MatchFloor z = halted(new int[] {'s', 20, 5}, new int[] {'b', 20, 5});
        z.auction();
        noPrice("both are filled", z);
        price("the least volume", halted(new int[] {'s', 20, 1}, new int[] {'b', 20, 1}), 20, 1);
    }

    private static void touchingOrCrossedByOne() {
        for (int[] pair : NEIGHBOURS) {
            int low = pair[0];
            int high = pair[1];
            noPrice("to buy at " + low + ", to sell at " + high,
                    halted(new int[] {'b', low, 5}, new int[] {'s', high, 5}));
            price("both at " + low, halted(new int[] {'b', low, 5}, new int[] {'s', low, 5}), low, 5);
            price("both at " + high, halted(new int[] {'b', high, 5}, new int[] {'s', high, 5}), high, 5);
            price("to buy at " + high + ", to sell at " + low,
                    halted(new int[] {'b', high, 5}, new int[] {'s', low, 5}), low, 5);
        }
    }

    /** "the price with the greatest volume", even if it is greater by 1 and the difference far greater. */
    private static void greatestVolumeByOne() {
        price("6 at 30, 5 at 20", halted(new int[] {'b', 30, 6}, new int[] {'s', 20, 5}, new int[] {'s', 30, 99}),
                30, 6);
        price("5 at both", halted(new int[] {'b', 30, 5}, new int[] {'s', 20, 5}, new int[] {'s', 30, 99}), 20, 5);
        price("6 at 20, 5 at 30", halted(new int[] {'s', 20, 6}, new int[] {'b', 30, 5}, new int[] {'b', 20, 99}),
                20, 6);
        price("5 at all prices", halted(new int[] {'s', 20, 5}, new int[] {'b', 30, 5}, new int[] {'b', 20, 99}),
                21, 5);
    }

    /** "of several, the one with the least difference of demand and supply, without sign". */
    private static void leastDifferenceByOne() {
        int[][] cases = {{3, 4, 20}, {4, 4, 20}, {5, 4, 22}, {4, 3, 22}, {1, 0, 22}, {0, 1, 20}, {0, 0, 20}};
        for (int[] one : cases) {
            differenceAtBothEnds(one[0], one[1], one[2]);
        }
        price("3 more demand at 20, none at 21, 4 less from 22 on", halted(new int[] {'b', 30, 10},
                new int[] {'s', 20, 10}, new int[] {'b', 20, 3}, new int[] {'s', 22, 4}), 21, 10);
    }

    /** Demand is greater by the first number from 20 to 21, and less by the second one from 22 to 30. */
    private static void differenceAtBothEnds(int more, int less, int due) {
        MatchFloor x = new MatchFloor();
        x.halt();
        x.send(0, 'b', 30, 10, 1);
        x.send(1, 's', 20, 10, 1);
        if (more > 0) {
            x.send(2, 'b', 21, more, 1);
        }
        if (less > 0) {
            x.send(3, 's', 22, less, 1);
        }
        price(more + " more demand to 21, " + less + " less from 22 on", x, due, 10);
    }

    /** "and of several, the lowest one". */
    private static void lowestOfSeveral() {
        price("from 1 to 300", halted(new int[] {'b', 300, 5}, new int[] {'s', 1, 5}), 1, 5);
        price("from 2 to 300", halted(new int[] {'b', 300, 5}, new int[] {'s', 2, 5}), 2, 5);
        price("from 99 to 100", halted(new int[] {'b', 100, 5}, new int[] {'s', 99, 5}), 99, 5);
        price("two ranges, 1 more and 1 less", halted(new int[] {'b', 40, 10}, new int[] {'s', 10, 10},
                new int[] {'b', 20, 1}, new int[] {'s', 21, 1}), 10, 10);
        price("two ranges with a better one between", halted(new int[] {'b', 40, 10}, new int[] {'s', 10, 10},
                new int[] {'b', 20, 1}, new int[] {'s', 22, 1}), 21, 10);
    }

    /** The price of an auction is one of all prices, not of the book's alone: the next one behind a price to buy. */
    private static void pricesWithoutOrders() {
        for (int[] pair : NEIGHBOURS) {
            int low = pair[0];
            int high = pair[1];
            price("behind " + low, halted(new int[] {'s', 1, 5}, new int[] {'b', 300, 5}, new int[] {'b', low, 1}),
                    high, 5);
        }
        price("none is behind 300", halted(new int[] {'s', 1, 5}, new int[] {'b', 300, 5}, new int[] {'b', 300, 1}),
                1, 5);
    }

    /** As many orders and amounts as there can be. */
    private static void greatestAmounts() {
        MatchFloor x = new MatchFloor();
        x.halt();
        for (int i = 0; i < 30; i++) {
            x.send(0, 'b', 300, 99, 1);
            x.send(1, 's', 1, 99, 1);
        }
        price("30 and 30 orders of 99", x, 1, 2970);
        checks.same("one trade for each pair", x.tradeCount(), 30);
        checks.same("nothing is left", x.levels('b') + x.levels('s'), 0);
        MatchFloor y = new MatchFloor();
        y.halt();
        for (int i = 0; i < 59; i++) {
            y.send(0, 'b', 20, 1, 1);
        }
        y.send(1, 's', 20, 99, 1);
        price("59 orders and one", y, 20, 59);
        checks.same("59 trades", y.tradeCount(), 59);
        checks.same("40 are left", Look.side(y, 's'), "\ns 20: 1 of 40 [59]");
    }

    private static void heldWithoutOrders() {
        MatchFloor x = new MatchFloor();
        x.halt();
        checks.same("an empty floor", x.auction(), 0);
        checks.fails("is open", x.isHalted());
        checks.same("no trade", x.tradeCount(), 0);
        checks.same("the floor works on", x.send(0, 'b', 20, 1, 1), 0);
    }

    private static void heldOnOneSide() {
        for (char side : new char[] {'b', 's'}) {
            MatchFloor x = halted(new int[] {side, 20, 9});
            checks.same("only side " + side, x.auction(), 0);
            checks.fails("is open", x.isHalted());
            checks.same("the order stays", Look.order(x, 0), "a 9/1 0.0");
        }
    }

    /** "each time the lesser one of what is left of both and of what is left of the volume". */
    private static void lesserOfThree() {
        String[] trades = {"4@20 b0 s1", "5@20 b0 s1", "5@20 b0 s1"};
        String[] buyers = {"a 1/1 0.8", "f 0 1.0", "f 0 1.0"};
        String[] sellers = {"f 0 1.0", "f 0 1.0", "a 1/1 " + 5f / 6f};
        for (int i = 0; i < 3; i++) {
            MatchFloor x = halted(new int[] {'b', 20, 5}, new int[] {'s', 20, 4 + i});
            checks.same("5 to buy, " + (4 + i) + " to sell", x.auction(), Math.min(5, 4 + i));
            checks.same("one trade", Look.trades(x), trades[i]);
            checks.same("the buyer", Look.order(x, 0), buyers[i]);
            checks.same("the seller", Look.order(x, 1), sellers[i]);
        }
    }

    /** "until its volume has been traded": what is left of an order when the other side is used up. */
    private static void lastTradeLeavesOne() {
        MatchFloor x = halted(new int[] {'b', 30, 3}, new int[] {'b', 29, 3}, new int[] {'b', 28, 3},
                new int[] {'s', 20, 8}, new int[] {'s', 40, 9});
        checks.same("volume", x.auction(), 8);
        checks.same("three trades", Look.trades(x), "2@20 b2 s3, 3@20 b1 s3, 3@20 b0 s3");
        checks.same("1 is left", Look.side(x, 'b'), "\nb 28: 1 of 1 [2]");
        checks.same("what was not met stays", Look.side(x, 's'), "\ns 40: 1 of 9 [4]");
    }

    /** "The first order of a side is the first one of its best level." */
    private static void firstOrdersOfTheBestLevels() {
        MatchFloor x = halted(new int[] {'s', 22, 2}, new int[] {'b', 22, 2}, new int[] {'s', 20, 2},
                new int[] {'b', 24, 2}, new int[] {'s', 20, 2}, new int[] {'b', 24, 2});
        checks.same("the price", x.auctionPrice(), 22);
        checks.same("volume", x.auction(), 6);
        checks.same("best price, then time", Look.trades(x), "2@22 b1 s0, 2@22 b5 s4, 2@22 b3 s2");
    }

    /** "whatever they show": all that is left is traded at one time, and the place is kept. */
    private static void whateverTheyShow() {
        MatchFloor x = new MatchFloor();
        x.halt();
        x.send(0, 'b', 20, 9, 2);
        x.send(1, 'b', 20, 9, 2);
        x.send(2, 's', 20, 8, 1);
        checks.same("volume", x.auction(), 8);
        checks.same("one trade", Look.trades(x), "8@20 b0 s2");
        checks.same("it stays first", Look.side(x, 'b'), "\nb 20: 3 of 10 [0, 1]");
    }

    private static void whoeverOwnsThem() {
        for (char rule : new char[] {'r', 'i'}) {
            MatchFloor x = new MatchFloor();
            x.setRule(rule);
            x.halt();
            x.send(3, 'b', 20, 5, 1);
            x.send(3, 's', 20, 5, 1);
            checks.same("one owner by the rule " + rule, x.auction(), 5);
            checks.same("both are filled", "" + x.stateOf(0) + x.stateOf(1), "ff");
        }
    }

    private static void bandIsNotLookedAt() {
        MatchFloor x = new MatchFloor();
        x.setBand(1);
        x.send(0, 's', 300, 1, 1);
        x.send(1, 'b', 300, 1, 1);
        x.halt();
        x.send(0, 's', 1, 1, 1);
        x.send(1, 'b', 1, 1, 1);
        checks.same("from 300 to 1", x.auction(), 1);
        checks.fails("the floor is open", x.isHalted());
        checks.same("the latest trade", x.tradePrice(0), 1);
    }

    /** "Then all other active orders show their slice, or what is left if that is less, at their places". */
    private static void slicesAfterwards() {
        MatchFloor x = new MatchFloor();
        x.send(0, 's', 20, 9, 4);
        x.send(1, 's', 20, 5, 4);
        x.send(2, 'b', 10, 4, 4);
        x.send(3, 'b', 20, 3, 3);
        x.send(3, 's', 10, 1, 1);
        checks.same("1 of 6 is shown", Look.order(x, 0), "a 6/1 " + 3f / 9f);
        checks.same("3 of 3 are shown", Look.order(x, 2), "a 3/3 0.25");
        x.halt();
        checks.same("halting shows nothing anew", x.shownOf(0), 1);
        checks.same("without a price", x.auction(), 0);
        checks.same("a slice", Look.order(x, 0), "a 6/4 " + 3f / 9f);
        checks.same("what is left, which is less", Look.order(x, 2), "a 3/3 0.25");
        checks.same("at its place", Look.side(x, 's'), "\ns 20: 8 of 11 [0, 1]");
        x.halt();
        x.send(3, 'b', 20, 2, 1);
        checks.same("volume", x.auction(), 2);
        checks.same("as much as a slice is left", Look.order(x, 0), "a 4/4 " + 5f / 9f);
        x.halt();
        x.send(3, 'b', 20, 1, 1);
        checks.same("volume", x.auction(), 1);
        checks.same("1 less", Look.side(x, 's'), "\ns 20: 7 of 8 [0, 1]");
    }

    /** "and the floor is open". */
    private static void opensTheFloor() {
        MatchFloor x = halted(new int[] {'b', 20, 9}, new int[] {'s', 20, 5});
        x.auction();
        checks.fails("open", x.isHalted());
        checks.illegalState("no auction of an open floor", () -> x.auction());
        x.send(3, 's', 20, 9, 9);
        checks.same("orders meet again", x.tradeCount(), 5);
        checks.same("the floor can be halted again", x.halt(), 1);
    }

    /** "cancelled, or lets the other one be cancelled, whatever the band is, and with all that is left of it". */
    private static void ownOrderWhateverTheBandIs() {
        for (char rule : new char[] {'r', 'i'}) {
            MatchFloor x = new MatchFloor();
            x.setBand(1);
            x.setRule(rule);
            x.send(0, 's', 1, 1, 1);
            x.send(1, 'b', 1, 1, 1);
            x.send(2, 's', 300, 99, 1);
            x.send(2, 'b', 300, 98, 1);
            checks.fails("not halted by the rule " + rule, x.isHalted());
            checks.same("in the book", Look.order(x, 2), rule == 'r' ? "c 99 0.0" : "a 99/1 0.0");
            checks.same("come in", Look.order(x, 3), rule == 'r' ? "a 98/1 0.0" : "c 98 0.0");
        }
        MatchFloor y = new MatchFloor();
        y.setBand(1);
        y.send(0, 's', 1, 1, 1);
        y.send(1, 'b', 1, 1, 1);
        y.send(2, 's', 50, 5, 1);
        y.send(3, 's', 50, 5, 1);
        y.send(2, 'b', 50, 5, 1);
        checks.holds("the next order, of another owner, halts", y.isHalted());
        checks.same("the own one is cancelled before", "" + y.stateOf(2) + y.stateOf(3) + y.stateOf(4), "caa");
    }

    /** "The latest trade can be one that the order that comes in has just made". */
    private static void latestTradeOfTheOrderItself() {
        MatchFloor x = new MatchFloor();
        x.setBand(10);
        x.send(0, 's', 100, 1, 1);
        x.send(0, 's', 110, 1, 1);
        x.send(0, 's', 120, 1, 1);
        x.send(0, 's', 134, 1, 1);
        x.send(1, 'b', 300, 5, 5);
        checks.same("100, 110 and 120", x.tradeCount(), 3);
        checks.holds("134 is too far from 120", x.isHalted());
        checks.same("left", x.leftOf(4), 2);
        MatchFloor y = new MatchFloor();
        y.setBand(10);
        y.send(0, 's', 100, 1, 1);
        y.send(0, 's', 112, 1, 1);
        y.send(1, 'b', 112, 2, 2);
        checks.holds("the first trade of all is looked at for the second one", y.isHalted());
        checks.same("112 is too far from 100", y.tradeCount(), 1);
    }

    /** "... or one of an auction". */
    private static void latestTradeOfAnAuction() {
        for (int price : new int[] {55, 56}) {
            MatchFloor x = halted(new int[] {'b', 60, 5}, new int[] {'s', 50, 5});
            x.setBand(10);
            x.auction();
            x.send(0, 's', price, 1, 1);
            x.send(1, 'b', price, 1, 1);
            checks.same("from 50 to " + price, x.isHalted(), price == 56);
        }
    }

    /** "An auction without a price opens the floor and sets off stops as well". */
    private static void stopsAfterAuctions() {
        MatchFloor x = new MatchFloor();
        x.send(0, 's', 20, 1, 1);
        x.send(1, 'b', 20, 1, 1);
        x.setBand(10);
        x.send(0, 's', 30, 4, 4);
        x.halt();
        x.sendStop(1, 'b', 20, 30, 3);
        x.sendStop(1, 'b', 21, 15, 3);
        x.sendStop(1, 'b', 20, 15, 3);
        checks.same("without a price", x.auction(), 0);
        checks.same("the first stop halts the floor anew", x.isHalted(), true);
        checks.same("states", "" + x.stateOf(3) + x.stateOf(4) + x.stateOf(5), "aww");
        checks.same("its volume", x.auction(), 3);
        checks.same("the trade at 30 sets off both", "" + x.stateOf(3) + x.stateOf(4) + x.stateOf(5), "faa");
        checks.same("in the order of their numbers", Look.side(x, 'b'), "\nb 15: 6 of 6 [4, 5]");
        checks.fails("open", x.isHalted());
        MatchFloor y = new MatchFloor();
        y.sendStop(2, 'b', 1, 25, 3);
        y.send(0, 's', 25, 9, 2);
        y.halt();
        y.send(1, 'b', 25, 6, 1);
        checks.same("with a price", y.auction(), 6);
        checks.same("the stop meets the slices that the auction left", Look.trades(y),
                "1@25 b0 s1, 2@25 b0 s1, 6@25 b2 s1");
    }
}

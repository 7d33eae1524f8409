/** Promises 27 to 35: trades, sums, owners, and whether the floor is consistent. */
public final class TradesTest {
    private static final Checks checks = new Checks("TradesTest");
    private static final int[] NO_TRADES = {-1, 3, 4, 50, 51, Integer.MIN_VALUE, Integer.MAX_VALUE};

    private TradesTest() {
    }

    public static void main(String[] args) {
        promise27TradeCount();
        promise28TradePrice();
        promise29TradeAmount();
        promise30TradeBuyer();
        promise31TradeSeller();
        latestFiftyAreKept();
        promise32Volume();
        promise33MeanPrice();
        promise34Owners();
        promise35OpenFloor();
        promise35HaltedFloor();
        checks.end();
    }

    /** Three trades: 4 at 20 (0 to 1), 3 at 30 (2 to 3), 2 at 100 (4 to 3). */
    private static MatchFloor threeTrades() {
        MatchFloor x = new MatchFloor();
        x.send(0, 's', 20, 4, 4);
        x.send(1, 'b', 20, 4, 4);
        x.send(2, 's', 30, 3, 3);
        x.send(3, 'b', 100, 5, 5);
        x.send(4, 's', 50, 2, 2);
        return x;
    }

    private static void promise27TradeCount() {
        MatchFloor x = new MatchFloor();
        checks.same("none", x.tradeCount(), 0);
        checks.same("three", threeTrades().tradeCount(), 3);
        x.send(0, 's', 20, 60, 1);
        x.send(1, 'b', 20, 60, 60);
        checks.same("one for each slice", x.tradeCount(), 60);
        x.halt();
        x.send(0, 's', 20, 10, 1);
        x.send(1, 'b', 20, 10, 1);
        x.auction();
        checks.same("auctions as well", x.tradeCount(), 61);
    }

    private static void promise28TradePrice() {
        MatchFloor x = threeTrades();
        checks.same("latest", x.tradePrice(0), 100);
        checks.same("before", x.tradePrice(1), 30);
        checks.same("first", x.tradePrice(2), 20);
        for (int rank : NO_TRADES) {
            checks.noSuch("tradePrice " + rank, () -> x.tradePrice(rank));
        }
        checks.noSuch("no trade", () -> new MatchFloor().tradePrice(0));
    }

    private static void promise29TradeAmount() {
        MatchFloor x = threeTrades();
        checks.same("latest", x.tradeAmount(0), 2);
        checks.same("before", x.tradeAmount(1), 3);
        checks.same("first", x.tradeAmount(2), 4);
        for (int rank : NO_TRADES) {
            checks.noSuch("tradeAmount " + rank, () -> x.tradeAmount(rank));
        }
        checks.noSuch("no trade", () -> new MatchFloor().tradeAmount(0));
    }

    private static void promise30TradeBuyer() {
        MatchFloor x = threeTrades();
        checks.same("latest", x.tradeBuyer(0), 3);
        checks.same("before", x.tradeBuyer(1), 3);
        checks.same("first", x.tradeBuyer(2), 1);
        for (int rank : NO_TRADES) {
            checks.noSuch("tradeBuyer " + rank, () -> x.tradeBuyer(rank));
        }
        checks.noSuch("no trade", () -> new MatchFloor().tradeBuyer(0));
    }

    private static void promise31TradeSeller() {
        MatchFloor x = threeTrades();
        checks.same("latest", x.tradeSeller(0), 4);
        checks.same("before", x.tradeSeller(1), 2);
        checks.same("first", x.tradeSeller(2), 0);
        for (int rank : NO_TRADES) {
            checks.noSuch("tradeSeller " + rank, () -> x.tradeSeller(rank));
        }
        checks.noSuch("no trade", () -> new MatchFloor().tradeSeller(0));
    }

    private static void latestFiftyAreKept() {
        MatchFloor x = threeTrades();
        x.send(0, 's', 40, 47, 1);
        x.send(1, 'b', 40, 47, 47);
        checks.same("fifty", x.tradeCount(), 50);
        checks.same("the first one is kept", Look.trade(x, 49), "4@20 b1 s0");
        checks.noSuch("rank 50", () -> x.tradePrice(50));
        x.send(2, 's', 41, 5, 5);
        x.send(3, 'b', 41, 5, 5);
        checks.same("one more", x.tradeCount(), 51);
        checks.same("the first one is kept no more", Look.trade(x, 49), "3@30 b3 s2");
        checks.same("the latest one", Look.trade(x, 0), "5@41 b8 s7");
        checks.same("the one before", Look.trade(x, 1), "1@40 b6 s5");
        checks.noSuch("price of rank 50", () -> x.tradePrice(50));
        checks.noSuch("amount of rank 50", () -> x.tradeAmount(50));
        checks.noSuch("buyer of rank 50", () -> x.tradeBuyer(50));
        checks.noSuch("seller of rank 50", () -> x.tradeSeller(50));
        x.send(0, 's', 42, 90, 1);
        x.send(1, 'b', 42, 90, 90);
        checks.same("many more", x.tradeCount(), 141);
        for (int rank = 0; rank < 50; rank++) {
            checks.same("rank " + rank, Look.trade(x, rank), "1@42 b10 s9");
        }
        checks.same("sums are of all trades", x.volume(), 4 + 3 + 2 + 47 + 5 + 90);
    }

    private static void promise32Volume() {
        MatchFloor x = new MatchFloor();
        checks.same("none", x.volume(), 0);
        checks.same("sum", threeTrades().volume(), 9);
        x.halt();
        for (int i = 0; i < 30; i++) {
            x.send(0, 'b', 300, 99, 1);
            x.send(1, 's', 300, 99, 1);
        }
        x.auction();
        checks.same("of an auction", x.volume(), 2970);
        checks.same("mean", x.meanPrice(), 300.0);
    }

    private static void promise33MeanPrice() {
        MatchFloor x = new MatchFloor();
        checks.throwing("no trade", ArithmeticException.class, () -> x.meanPrice());
        x.send(0, 's', 20, 4, 4);
        checks.throwing("still no trade", ArithmeticException.class, () -> x.meanPrice());
        checks.same("mean", threeTrades().meanPrice(), (4 * 20 + 3 * 30 + 2 * 100) / 9.0);
        x.send(1, 'b', 30, 3, 3);
        checks.same("one trade", x.meanPrice(), 20.0);
        x.cancel(0);
        x.send(0, 's', 23, 4, 4);
        x.send(1, 'b', 30, 3, 3);
        checks.same("halves", x.meanPrice(), 21.5);
    }

    private static void promise34Owners() {
        MatchFloor x = new MatchFloor();
        checks.same("none", x.owners(), 0);
        x.send(0, 'b', 20, 4, 4);
        x.send(5, 's', 30, 4, 4);
        checks.same("two", x.owners(), 2);
        x.send(5, 'b', 20, 4, 4);
        x.send(0, 'b', 10, 4, 4);
        checks.same("each one once", x.owners(), 2);
        x.sendStop(3, 'b', 200, 20, 4);
        checks.same("not for a stop", x.owners(), 2);
        x.cancel(0);
        checks.same("one of two orders is cancelled", x.owners(), 2);
        x.cancel(3);
        checks.same("both are", x.owners(), 1);
        x.send(1, 's', 20, 4, 4);
        checks.same("filled orders do not count", x.owners(), 1);
        for (int owner = 0; owner <= 5; owner++) {
            x.send(owner, 'b', 1, 1, 1);
        }
        checks.same("all six", x.owners(), 6);
    }

    private static void promise35OpenFloor() {
        MatchFloor x = new MatchFloor();
        checks.holds("a new floor", x.isConsistent());
        x.send(0, 'b', 20, 9, 4);
        checks.holds("one side", x.isConsistent());
        x.send(1, 's', 21, 9, 4);
        checks.holds("both sides", x.isConsistent());
        x.send(2, 's', 20, 3, 3);
        checks.holds("part of a slice", x.isConsistent());
        x.reduce(0, 1);
        checks.holds("less", x.isConsistent());
        x.sendStop(3, 'b', 1, 50, 5);
        x.send(4, 'b', 1, 1, 1);
        checks.holds("a stop has come in", x.isConsistent());
    }

    private static void promise35HaltedFloor() {
        MatchFloor x = new MatchFloor();
        x.send(0, 'b', 20, 9, 4);
        x.halt();
        checks.holds("halted", x.isConsistent());
        x.send(1, 's', 15, 5, 4);
        checks.holds("crossed while halted", x.isConsistent());
        x.send(1, 'b', 18, 5, 4);
        checks.holds("a price between the levels", x.isConsistent());
        x.auction();
        checks.holds("after the auction", x.isConsistent());
        x.setBand(1);
        x.send(2, 's', 40, 5, 4);
        x.send(3, 'b', 45, 5, 4);
        checks.holds("halted by the band", x.isHalted() && x.spread() < 0 && x.isConsistent());
    }
}

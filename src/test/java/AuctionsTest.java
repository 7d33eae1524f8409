/** Promises 24 to 26: the price and the volume that an auction would have. */
public final class AuctionsTest {
    private static final Checks checks = new Checks("AuctionsTest");

    private AuctionsTest() {
    }

    public static void main(String[] args) {
        noPriceWithoutCrossing();
        greatestVolume();
        leastDifference();
        lowestPrice();
        priceBetweenLevels();
        priceBehindGaps();
        allThatIsLeftCounts();
        stopsDoNotCount();
        askedAgain();
        openFloor();
        ends();
        promise26VolumeAt();
        promise26VolumeAtWrong();
        checks.end();
    }

    /** A halted floor with orders {side, price, amount}. */
    private static MatchFloor halted(int[]... orders) {
        MatchFloor x = new MatchFloor();
        x.halt();
        for (int[] order : orders) {
            x.send(0, (char) order[0], order[1], order[2], 1);
        }
        return x;
    }

    private static void price(String what, MatchFloor x, int due) {
        checks.same(what + ": auctionPrice", x.auctionPrice(), due);
        checks.same(what + ": auctionPriceByTrying", x.auctionPriceByTrying(), due);
    }

    private static void noPrice(String what, MatchFloor x) {
        checks.noSuch(what + ": auctionPrice", () -> x.auctionPrice());
        checks.noSuch(what + ": auctionPriceByTrying", () -> x.auctionPriceByTrying());
    }

    private static void noPriceWithoutCrossing() {
        noPrice("an empty floor", new MatchFloor());
        noPrice("an empty halted floor", halted());
        noPrice("only to buy", halted(new int[] {'b', 20, 5}));
        noPrice("only to sell", halted(new int[] {'s', 20, 5}));
        noPrice("not crossed", halted(new int[] {'b', 20, 5}, new int[] {'s', 21, 5}));
        price("touching", halted(new int[] {'b', 20, 5}, new int[] {'s', 20, 5}), 20);
    }

    private static void greatestVolume() {
        MatchFloor x = halted(new int[] {'b', 30, 4}, new int[] {'b', 28, 3}, new int[] {'s', 25, 5},
                new int[] {'s', 21, 2});
        price("more at 25 than at 21", x, 25);
        checks.same("volume", x.volumeAt(25), 7);
        MatchFloor y = halted(new int[] {'b', 30, 4}, new int[] {'b', 10, 90}, new int[] {'s', 25, 5},
                new int[] {'s', 10, 3});
        price("the greatest volume before the least difference", y, 25);
        checks.same("volume", y.auction(), 4);
    }

    private static void leastDifference() {
        MatchFloor x = halted(new int[] {'b', 30, 10}, new int[] {'b', 25, 5}, new int[] {'s', 20, 10},
                new int[] {'s', 28, 1});
        price("5 more demand at 20, none at 26, one less at 28", x, 26);
        MatchFloor y = halted(new int[] {'b', 30, 10}, new int[] {'s', 20, 10}, new int[] {'s', 22, 3},
                new int[] {'b', 21, 4});
        price("4 more demand at 20, 3 less at 22", y, 22);
        MatchFloor z = halted(new int[] {'b', 30, 10}, new int[] {'s', 20, 10}, new int[] {'s', 22, 4},
                new int[] {'b', 21, 4});
        price("4 more demand at 20, 4 less at 22: without sign", z, 20);
        MatchFloor u = halted(new int[] {'b', 30, 10}, new int[] {'s', 20, 10}, new int[] {'s', 22, 5},
                new int[] {'b', 21, 4});
        price("4 more demand at 20, 5 less at 22", u, 20);
    }

    private static void lowestPrice() {
        price("one to buy at 90, one to sell at 10", halted(new int[] {'b', 90, 5}, new int[] {'s', 10, 5}), 10);
        price("from 40 to 90 all are equal", halted(new int[] {'b', 90, 5}, new int[] {'s', 10, 3},
                new int[] {'s', 40, 4}), 40);
        price("2 more demand from 16 on, 2 less from 22 on", halted(new int[] {'b', 30, 10}, new int[] {'b', 21, 2},
                new int[] {'b', 15, 4}, new int[] {'s', 10, 10}, new int[] {'s', 22, 2}), 16);
    }

    private static void priceBetweenLevels() {
        MatchFloor x = halted(new int[] {'s', 10, 5}, new int[] {'b', 20, 5}, new int[] {'b', 15, 5});
        price("right behind the level 15", x, 16);
        checks.same("volume", x.auction(), 5);
        checks.same("traded at a price without orders", x.tradePrice(0), 16);
        MatchFloor y = halted(new int[] {'s', 10, 5}, new int[] {'b', 20, 3}, new int[] {'b', 15, 2});
        price("volume before difference", y, 10);
    }

    private static void priceBehindGaps() {
        int[][] steps = {{98, 99}, {99, 100}, {100, 102}, {150, 152}, {198, 200}, {200, 205}, {290, 295}, {295, 300}};
        for (int[] step : steps) {
            MatchFloor x = halted(new int[] {'s', 10, 5}, new int[] {'b', 300, 5}, new int[] {'b', step[0], 5});
            price("behind " + step[0], x, step[1]);
        }
    }

    private static void allThatIsLeftCounts() {
        MatchFloor x = halted(new int[] {'b', 30, 99}, new int[] {'s', 20, 60}, new int[] {'s', 25, 50});
        price("hidden amounts count", x, 25);
        checks.same("volume", x.volumeAt(25), 99);
        x.reduce(2, 30);
        checks.same("volume when less is left", x.volumeAt(25), 90);
        x.cancel(2);
        price("without a cancelled one", x, 20);
        checks.same("volume", x.volumeAt(25), 60);
    }

    private static void stopsDoNotCount() {
        MatchFloor x = halted(new int[] {'b', 30, 9});
        x.sendStop(1, 's', 20, 20, 9);
        noPrice("a stop to sell", x);
        checks.same("volume", x.volumeAt(25), 0);
    }

    private static void askedAgain() {
        MatchFloor x = halted(new int[] {'b', 30, 9}, new int[] {'s', 20, 9}, new int[] {'s', 25, 4});
        checks.same("by sums", x.auctionPrice(), 20);
        x.reduce(1, 3);
        checks.same("by sums with less volume", x.auctionPrice(), 25);
        x.cancel(0);
        checks.noSuch("by sums with none", () -> x.auctionPrice());
        MatchFloor y = halted(new int[] {'b', 30, 9}, new int[] {'s', 20, 9}, new int[] {'s', 25, 4});
        checks.same("by trying", y.auctionPriceByTrying(), 20);
        y.reduce(1, 3);
        checks.same("by trying with less volume", y.auctionPriceByTrying(), 25);
        y.cancel(0);
        checks.noSuch("by trying with none", () -> y.auctionPriceByTrying());
    }

    private static void openFloor() {
        MatchFloor x = new MatchFloor();
        x.send(0, 'b', 20, 5, 5);
        x.send(1, 's', 21, 5, 5);
        noPrice("an open floor", x);
        checks.same("volume at 20", x.volumeAt(20), 0);
        checks.same("volume at 21", x.volumeAt(21), 0);
        x.halt();
        x.send(1, 's', 18, 2, 2);
        price("a halted one", x, 18);
        x.auction();
        noPrice("after the auction", x);
    }

    private static void ends() {
        price("at 1", halted(new int[] {'b', 1, 5}, new int[] {'s', 1, 5}), 1);
        price("at 300", halted(new int[] {'b', 300, 5}, new int[] {'s', 300, 5}), 300);
        price("from 1 to 300", halted(new int[] {'b', 300, 5}, new int[] {'s', 1, 5}), 1);
        price("behind 295", halted(new int[] {'b', 300, 5}, new int[] {'b', 295, 1}, new int[] {'s', 1, 5}), 300);
    }

    private static void promise26VolumeAt() {
        MatchFloor x = halted(new int[] {'b', 30, 4}, new int[] {'b', 28, 3}, new int[] {'s', 25, 5},
                new int[] {'s', 21, 4}, new int[] {'b', 120, 1}, new int[] {'s', 120, 90});
        int[][] cases = {{1, 0}, {20, 0}, {21, 4}, {24, 4}, {25, 8}, {28, 8}, {29, 5}, {30, 5}, {31, 1}, {99, 1},
            {100, 1}, {120, 1}, {122, 0}, {200, 0}, {300, 0}};
        for (int[] one : cases) {
            checks.same("volumeAt " + one[0], x.volumeAt(one[0]), one[1]);
        }
    }

    private static void promise26VolumeAtWrong() {
        MatchFloor x = halted(new int[] {'b', 300, 4}, new int[] {'s', 1, 4});
        for (int price : new int[] {0, -1, 101, 199, 201, 299, 301, 305, Integer.MIN_VALUE, Integer.MAX_VALUE}) {
            checks.illegalArgument("volumeAt " + price, () -> x.volumeAt(price));
        }
    }
}

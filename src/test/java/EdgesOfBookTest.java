import java.util.List;

/** The edges in the document's sentences on prices, orders, the book, coming in and the band, one by one. */
public final class EdgesOfBookTest {
    private static final Checks checks = new Checks("EdgesOfBookTest");
    /** Neighbours, where the steps from price to price change and at both ends. */
    private static final int[][] NEIGHBOURS = {{1, 2}, {20, 21}, {98, 99}, {99, 100}, {100, 102}, {196, 198},
        {198, 200}, {200, 205}, {290, 295}, {295, 300}};

    private EdgesOfBookTest() {
    }

    public static void main(String[] args) {
        everyNumberAsPrice();
        everyOwner();
        ownersMeetEachOther();
        shownIsAtMostSliceAndLeft();
        sideWithOrdersAtSixtyPrices();
        levelWithSixtyOrders();
        levelLeavesWithItsLastOrder();
        bestLevelAtTheEnds();
        priceNotWorse();
        worseLevelIsNotMet();
        nothingLeftMeetsNone();
        lesserOfLeftAndShown();
        filledOrNextSlice();
        aloneAtItsLevel();
        reducedSlices();
        restShowsSlice();
        restIsLastOfItsLevel();
        emptySide();
        ownOrdersUpToTheLast();
        bandOverAllPrices();
        bandOfZero();
        bandWithoutTrade();
        bandHaltsWithWhatIsLeft();
        bandLooksAtEachLevel();
        haltedFloorMeetsNone();
        checks.end();
    }

    /** "A price is a number from 1 to 300; from 100 to 199, it must be even, and from 200 on, a multiple of 5." */
    private static void everyNumberAsPrice() {
        for (int number = -2; number <= 310; number++) {
            if (Prices.has(number)) {
                isPrice(number);
            } else {
                isNoPrice(number);
            }
        }
        for (int number : Prices.FAR_OFF) {
            isNoPrice(number);
        }
    }

    private static void isPrice(int price) {
        MatchFloor x = new MatchFloor();
        checks.same("send at " + price, x.send(0, 'b', price, 5, 5), 0);
        checks.same("its level is " + price, x.levelPrice('b', 0), price);
        checks.same("trigger " + price, x.sendStop(0, 'b', price, 20, 5), 1);
        checks.same("a stop at " + price, x.sendStop(0, 's', 20, price, 5), 2);
        checks.same("volumeAt " + price, x.volumeAt(price), 0);
        MatchFloor y = new MatchFloor();
        y.send(0, 's', price, 5, 5);
        checks.same("to sell at " + price, y.levelPrice('s', 0), price);
    }

    private static void isNoPrice(int number) {
        Class<IllegalArgumentException> due = IllegalArgumentException.class;
        Refusal.check(checks, "send at " + number, due, x -> x.send(0, 'b', number, 5, 5));
        Refusal.check(checks, "send to sell at " + number, due, x -> x.send(0, 's', number, 5, 5));
        Refusal.check(checks, "trigger " + number, due, x -> x.sendStop(0, 'b', number, 20, 5));
        Refusal.check(checks, "a stop at " + number, due, x -> x.sendStop(0, 's', 20, number, 5));
        Refusal.check(checks, "volumeAt " + number, due, x -> x.volumeAt(number));
    }

    /** "An order has a side, an owner from 0 to 5". */
    private static void everyOwner() {
        for (int owner = 0; owner <= 5; owner++) {
            MatchFloor x = new MatchFloor();
            checks.same("owner " + owner, x.send(owner, 's', 20, 5, 5), 0);
            checks.same("owner " + owner + " of a stop", x.sendStop(owner, 'b', 20, 20, 5), 1);
        }
        for (int owner : new int[] {-1, 6, -6, 256, 65536, Integer.MIN_VALUE, Integer.MAX_VALUE}) {
            Class<IllegalArgumentException> due = IllegalArgumentException.class;
            Refusal.check(checks, "owner " + owner, due, x -> x.send(owner, 's', 20, 5, 5));
            Refusal.check(checks, "owner " + owner + " of a stop", due, x -> x.sendStop(owner, 'b', 20, 20, 5));
        }
    }

    /** "If both have the same owner": each owner with each. */
    private static void ownersMeetEachOther() {
        for (int seller = 0; seller <= 5; seller++) {
            for (int buyer = 0; buyer <= 5; buyer++) {
                MatchFloor x = new MatchFloor();
                x.send(seller, 's', 20, 5, 5);
                x.send(buyer, 'b', 20, 5, 5);
                String what = "owners " + seller + " and " + buyer;
                checks.same(what, x.tradeCount(), seller == buyer ? 0 : 1);
                checks.same(what, "" + x.stateOf(0) + x.stateOf(1), seller == buyer ? "ca" : "ff");
            }
        }
    }

    /** "The shown amount of an active order is never greater than its slice or what is left." */
    private static void shownIsAtMostSliceAndLeft() {
        int[][] cases = {{1, 1, 1}, {1, 2, 1}, {2, 1, 1}, {1, 99, 1}, {99, 1, 1}, {50, 49, 49}, {50, 50, 50},
            {50, 51, 50}, {99, 98, 98}, {98, 99, 98}, {99, 99, 99}};
        for (int[] one : cases) {
            MatchFloor x = new MatchFloor();
            x.send(0, 's', 20, one[0], one[1]);
            String what = one[0] + " in slices of " + one[1];
            checks.same(what, x.shownOf(0), one[2]);
            checks.same(what + ": left", x.leftOf(0), one[0]);
            checks.same(what + ": of the level", x.shownAt('s', 0), one[2]);
        }
    }

    /** "the greatest price first for buying, and the least price first for selling": as many levels as there can be. */
    private static void sideWithOrdersAtSixtyPrices() {
        for (char side : new char[] {'b', 's'}) {
            MatchFloor x = new MatchFloor();
            for (int i = 0; i < 60; i++) {
                x.send(0, side, priceOfRank(side, i * 7 % 60), 99, 1);
            }
            checks.same("levels of " + side, x.levels(side), 60);
            for (int level = 0; level < 60; level++) {
                checks.same(side + " level " + level, x.levelPrice(side, level), priceOfRank(side, level));
            }
            checks.same("the order of the last level", x.orderAt(side, 59, 0), orderOfRank(59));
            checks.noSuch("level 60 of " + side, () -> x.levelPrice(side, 60));
            checks.noSuch("level -1 of " + side, () -> x.levelPrice(side, -1));
        }
    }

    private static int priceOfRank(char side, int rank) {
        List<Integer> all = Prices.ALL;
        return side == 's' ? all.get(rank * 2) : all.get(all.size() - 1 - rank * 2);
    }

    private static int orderOfRank(int rank) {
        for (int i = 0; i < 60; i++) {
            if (i * 7 % 60 == rank) {
                return i;
            }
        }
        return -1;
    }

    /** "At a level, orders stand one behind the other": as many as there can be. */
    private static void levelWithSixtyOrders() {
        for (char side : new char[] {'b', 's'}) {
            MatchFloor x = new MatchFloor();
            for (int i = 0; i < 60; i++) {
                x.send(i % 6, side, 20, 99, 98);
            }
            checks.same("levels of " + side, x.levels(side), 1);
            checks.same("orders", x.ordersAt(side, 0), 60);
            checks.same("left", x.leftAt(side, 0), 60 * 99);
            checks.same("shown", x.shownAt(side, 0), 60 * 98);
            for (int place = 0; place < 60; place++) {
                checks.same("place " + place, x.orderAt(side, 0, place), place);
            }
            checks.throwing("place 60", IndexOutOfBoundsException.class, () -> x.orderAt(side, 0, 60));
            checks.throwing("place -1", IndexOutOfBoundsException.class, () -> x.orderAt(side, 0, -1));
            checks.noSuch("level 1", () -> x.ordersAt(side, 1));
        }
    }

    /** "The levels of a side are the prices at which it has orders". */
    private static void levelLeavesWithItsLastOrder() {
        MatchFloor x = new MatchFloor();
        x.send(0, 's', 20, 5, 5);
        x.send(1, 's', 20, 5, 5);
        x.send(2, 's', 21, 5, 5);
        x.send(3, 'b', 20, 5, 5);
        checks.same("one of two is filled", x.levels('s'), 2);
        x.send(3, 'b', 20, 4, 4);
        checks.same("1 is left of the other one", Look.side(x, 's'), "\ns 20: 1 of 1 [1]\ns 21: 5 of 5 [2]");
        x.send(3, 'b', 20, 1, 1);
        checks.same("both are filled", Look.side(x, 's'), "\ns 21: 5 of 5 [2]");
        x.cancel(2);
        checks.same("the last one is cancelled", x.levels('s'), 0);
        checks.noSuch("level 0 of an empty side", () -> x.levelPrice('s', 0));
        x.send(4, 's', 30, 5, 5);
        x.send(4, 'b', 30, 5, 5);
        checks.same("the last one is cancelled by the rule", x.levels('s'), 0);
        checks.same("the other side has a level then", x.levels('b'), 1);
    }

    /** "the best one": at the least and the greatest price. */
    private static void bestLevelAtTheEnds() {
        MatchFloor x = new MatchFloor();
        x.send(0, 's', 300, 1, 1);
        x.send(1, 's', 1, 1, 1);
        checks.same("to sell, 1 is best", Look.side(x, 's'), "\ns 1: 1 of 1 [1]\ns 300: 1 of 1 [0]");
        x.send(2, 'b', 300, 2, 2);
        checks.same("at 1 before 300", Look.trades(x), "1@300 b2 s0, 1@1 b2 s1");
        MatchFloor y = new MatchFloor();
        y.send(0, 'b', 1, 1, 1);
        y.send(1, 'b', 300, 1, 1);
        checks.same("to buy, 300 is best", Look.side(y, 'b'), "\nb 300: 1 of 1 [1]\nb 1: 1 of 1 [0]");
        y.send(2, 's', 1, 2, 2);
        checks.same("at 300 before 1", Look.trades(y), "1@1 b0 s2, 1@300 b1 s2");
    }

    /** "the price of this level is not worse for it than its own price": equal, and one price beside. */
    private static void priceNotWorse() {
        for (int[] pair : NEIGHBOURS) {
            int low = pair[0];
            int high = pair[1];
            checks.same("buying at " + low + " from " + high, trades('s', high, 'b', low), "");
            checks.same("buying at " + high + " from " + high, trades('s', high, 'b', high), "1@" + high + " b1 s0");
            checks.same("buying at " + high + " from " + low, trades('s', low, 'b', high), "1@" + low + " b1 s0");
            checks.same("selling at " + high + " to " + low, trades('b', low, 's', high), "");
            checks.same("selling at " + low + " to " + low, trades('b', low, 's', low), "1@" + low + " b0 s1");
            checks.same("selling at " + low + " to " + high, trades('b', high, 's', low), "1@" + high + " b0 s1");
        }
    }

    private static String trades(char side, int price, char otherSide, int otherPrice) {
        MatchFloor x = new MatchFloor();
        x.send(0, side, price, 1, 1);
        x.send(1, otherSide, otherPrice, 1, 1);
        checks.fails("halted", x.isHalted());
        return Look.trades(x);
    }

    /** A level whose price is worse is not met, so neither the rule nor the band looks at it. */
    private static void worseLevelIsNotMet() {
        for (char rule : new char[] {'r', 'i'}) {
            MatchFloor x = new MatchFloor();
            x.setRule(rule);
            x.send(0, 's', 21, 5, 5);
            x.send(0, 'b', 20, 5, 5);
            checks.same("own orders that do not cross, rule " + rule, "" + x.stateOf(0) + x.stateOf(1), "aa");
            x.send(0, 's', 20, 5, 5);
            checks.same("and such that do", "" + x.stateOf(1) + x.stateOf(2), rule == 'r' ? "ca" : "ac");
        }
        MatchFloor y = traded(1, 20);
        y.send(2, 's', 50, 5, 5);
        y.send(3, 'b', 49, 5, 5);
        checks.fails("a level beyond the band that is not met", y.isHalted());
        y.send(3, 'b', 50, 5, 5);
        checks.holds("one that is", y.isHalted());
    }

    /** A floor with the given band on which owners 0 and 1 traded 1 at the price, by the orders 0 and 1. */
    private static MatchFloor traded(int band, int price) {
        MatchFloor x = new MatchFloor();
        x.setBand(band);
        x.send(0, 's', price, 1, 1);
        x.send(1, 'b', price, 1, 1);
        return x;
    }

    /** "as long as something of it is left": one that is used up just then meets no further order. */
    private static void nothingLeftMeetsNone() {
        for (char rule : new char[] {'r', 'i'}) {
            MatchFloor x = new MatchFloor();
            x.setRule(rule);
            x.send(1, 's', 20, 3, 3);
            x.send(0, 's', 20, 5, 5);
            x.send(0, 'b', 20, 3, 3);
            checks.same("used up before the own order, rule " + rule, Look.order(x, 2), "f 0 1.0");
            checks.same("which stays", Look.order(x, 1), "a 5/5 0.0");
            MatchFloor y = new MatchFloor();
            y.setRule(rule);
            y.send(1, 's', 20, 3, 3);
            y.send(0, 's', 20, 5, 5);
            y.send(0, 'b', 20, 4, 4);
            checks.same("1 is left before the own order, rule " + rule, Look.order(y, 2),
                    rule == 'r' ? "a 1/1 0.75" : "c 1 0.75");
            checks.same("which is met", Look.order(y, 1), rule == 'r' ? "c 5 0.0" : "a 5/5 0.0");
        }
        for (int amount = 3; amount <= 4; amount++) {
            MatchFloor x = traded(10, 20);
            x.send(2, 's', 20, 3, 3);
            x.send(2, 's', 30, 3, 3);
            x.send(3, 'b', 30, amount, amount);
            checks.same(amount + " before a level beyond the band", x.isHalted(), amount == 4);
            checks.same("left", x.leftOf(4), amount - 3);
        }
    }

    /** "the lesser one of what is left of the order that comes in and of the shown amount of the other". */
    private static void lesserOfLeftAndShown() {
        String[][] cases = {{"1@20 b1 s0", "a 9/3 0.1"}, {"2@20 b1 s0", "a 8/2 0.2"}, {"3@20 b1 s0", "a 7/1 0.3"},
            {"4@20 b1 s0", "a 6/4 0.4"}, {"1@20 b1 s0, 4@20 b1 s0", "a 5/3 0.5"}};
        for (int amount = 1; amount <= 5; amount++) {
            MatchFloor x = new MatchFloor();
            x.send(0, 's', 20, 10, 4);
            x.send(1, 'b', 20, amount, 1);
            checks.same(amount + " meets 4 shown", Look.trades(x), cases[amount - 1][0]);
            checks.same("the order in the book", Look.order(x, 0), cases[amount - 1][1]);
            checks.same("the order that came in", Look.order(x, 1), "f 0 1.0");
        }
        MatchFloor y = new MatchFloor();
        y.send(0, 'b', 20, 1, 99);
        y.send(1, 's', 20, 99, 99);
        checks.same("99 meets 1", Look.trades(y), "1@20 b0 s1");
        checks.same("98 is left", Look.order(y, 1), "a 98/98 " + 1f / 99f);
    }

    /** "has nothing left is filled; one that shows nothing any more shows its next slice, or what is left ...". */
    private static void filledOrNextSlice() {
        Object[][] cases = {{4, "f 0 1.0", "1"}, {5, "a 1/1 0.8", "1, 0"}, {7, "a 3/3 " + 4f / 7f, "1, 0"},
            {8, "a 4/4 0.5", "1, 0"}, {9, "a 5/4 " + 4f / 9f, "1, 0"}};
        for (Object[] one : cases) {
            int amount = (Integer) one[0];
            MatchFloor x = new MatchFloor();
            x.send(0, 'b', 20, amount, 4);
            x.send(1, 'b', 20, 2, 2);
            x.send(2, 's', 20, 3, 3);
            checks.same("1 is shown of " + amount, x.shownOf(0), 1);
            checks.same("it stays first", x.orderAt('b', 0, 0), 0);
            x.send(2, 's', 20, 1, 1);
            checks.same("4 of " + amount + " are traded", Look.order(x, 0), (String) one[1]);
            checks.holds("the level", Look.side(x, 'b').endsWith("[" + one[2] + "]"));
        }
    }

    /** "moves behind the last order of its level": alone, it is met again at once. */
    private static void aloneAtItsLevel() {
        MatchFloor x = new MatchFloor();
        x.send(0, 's', 20, 5, 2);
        x.send(1, 's', 21, 5, 5);
        x.send(2, 'b', 21, 6, 6);
        checks.same("its slices come before the next level", Look.trades(x),
                "1@21 b2 s1, 1@20 b2 s0, 2@20 b2 s0, 2@20 b2 s0");
        checks.same("filled", x.stateOf(0), 'f');
        MatchFloor y = new MatchFloor();
        y.send(0, 's', 20, 99, 1);
        y.send(1, 'b', 20, 98, 98);
        checks.same("98 slices", y.tradeCount(), 98);
        checks.same("the last one", Look.order(y, 0), "a 1/1 " + 98f / 99f);
        checks.same("at its level", Look.side(y, 's'), "\ns 20: 1 of 1 [0]");
    }

    /** The same after reduce: the slice stays, what is left is less. */
    private static void reducedSlices() {
        MatchFloor y = new MatchFloor();
        y.send(0, 's', 20, 20, 4);
        y.send(1, 'b', 20, 3, 3);
        checks.same("1 of 4 is shown", y.reduce(0, 12), 17);
        y.send(1, 'b', 20, 1, 1);
        checks.same("then 4 again", Look.order(y, 0), "a 11/4 0.2");
        for (int left = 1; left <= 5; left++) {
            MatchFloor x = new MatchFloor();
            x.send(0, 's', 20, 8, 4);
            x.send(1, 's', 20, 9, 9);
            x.send(2, 'b', 20, 2, 2);
            checks.same("what was left", x.reduce(0, left), 6);
            checks.same("to " + left, x.shownOf(0), Math.min(left, 2));
            checks.same("it keeps its place", x.orderAt('s', 0, 0), 0);
            x.send(2, 'b', 20, 2, 2);
            checks.same("to " + left + " and traded", Look.trade(x, 0), left == 1 ? "1@20 b3 s1" : "2@20 b3 s0");
            checks.same("state", x.stateOf(0), left <= 2 ? 'f' : 'a');
            checks.same("left", x.leftOf(0), Math.max(left - 2, 0));
            if (left > 2) {
                checks.same("shown", x.shownOf(0), left - 2);
            }
            checks.same("first then", x.orderAt('s', 0, 0), 1);
        }
    }

    /** "comes into the book ..., with a slice shown": what is left beside the slice. */
    private static void restShowsSlice() {
        for (int slice = 2; slice <= 4; slice++) {
            MatchFloor x = new MatchFloor();
            x.send(0, 's', 20, 2, 2);
            x.send(1, 'b', 20, 5, slice);
            checks.same("3 are left, slice " + slice, Look.order(x, 1), "a 3/" + Math.min(slice, 3) + " 0.4");
        }
    }

    /** "comes into the book as the last one of its level". */
    private static void restIsLastOfItsLevel() {
        MatchFloor x = new MatchFloor();
        x.send(0, 'b', 20, 5, 5);
        x.send(1, 'b', 21, 5, 5);
        x.send(2, 'b', 20, 5, 5);
        x.send(3, 'b', 19, 5, 5);
        x.send(4, 'b', 20, 9, 2);
        checks.same("last of the level in the middle", Look.side(x, 'b'),
                "\nb 21: 5 of 5 [1]\nb 20: 12 of 19 [0, 2, 4]\nb 19: 5 of 5 [3]");
        MatchFloor y = traded(10, 20);
        y.send(0, 's', 21, 2, 2);
        y.send(0, 's', 30, 5, 5);
        y.halt();
        y.send(2, 'b', 31, 1, 1);
        y.send(2, 'b', 31, 1, 1);
        checks.same("volume", y.auction(), 2);
        y.send(3, 'b', 31, 4, 3);
        checks.holds("halted", y.isHalted());
        y.send(4, 'b', 31, 4, 3);
        checks.same("one that halted, and one behind it", Look.side(y, 'b'), "\nb 31: 6 of 8 [6, 7]");
    }

    /** Coming in where the other side, or the whole floor, is without orders. */
    private static void emptySide() {
        for (char side : new char[] {'b', 's'}) {
            MatchFloor x = new MatchFloor();
            checks.same("an empty floor", x.send(0, side, 20, 99, 99), 0);
            checks.same("in the book", Look.side(x, side), "\n" + side + " 20: 99 of 99 [0]");
            checks.same("no trade", x.tradeCount(), 0);
            x.send(1, side, 20, 1, 1);
            checks.same("the own side is not met", x.tradeCount(), 0);
            char other = side == 'b' ? 's' : 'b';
            x.send(2, other, 20, 99, 99);
            x.send(2, other, 20, 2, 2);
            checks.same("the side is used up", x.levels(side), 0);
            checks.same("1 is left", Look.side(x, other), "\n" + other + " 20: 1 of 1 [3]");
        }
    }

    /** "by the rule 'r' the order in the book is cancelled, and by the rule 'i' the order that comes in is". */
    private static void ownOrdersUpToTheLast() {
        MatchFloor x = new MatchFloor();
        for (int i = 0; i < 59; i++) {
            x.send(3, 's', 20 + i % 3, 99, 1);
        }
        checks.same("the sixtieth", x.send(3, 'b', 22, 7, 3), 59);
        checks.same("all others are cancelled", x.levels('s'), 0);
        checks.same("it is the only one", x.halt(), 1);
        checks.same("in the book", Look.order(x, 59), "a 7/3 0.0");
        MatchFloor y = new MatchFloor();
        y.setRule('i');
        for (int i = 0; i < 59; i++) {
            y.send(3, 's', 20, 99, 1);
        }
        checks.same("the sixtieth", y.send(3, 'b', 20, 7, 3), 59);
        checks.same("it is cancelled", Look.order(y, 59), "c 7 0.0");
        checks.same("one more can be sent", y.send(3, 'b', 19, 7, 3), 60);
        checks.same("all others stay", y.halt(), 60);
    }

    /** "its difference ..., without sign, times 100 is not greater than the band times that price". */
    private static void bandOverAllPrices() {
        for (int latest : Prices.ALL) {
            for (int band : new int[] {1, 2, 5, 10, 25, 33, 49, 50}) {
                int first = firstWithin(latest, band);
                int last = lastWithin(latest, band);
                bandAt(latest, band, first);
                bandAt(latest, band, first - 1);
                bandAt(latest, band, last);
                bandAt(latest, band, last + 1);
            }
        }
    }

    private static boolean isWithin(int latest, int band, int price) {
        return price >= latest ? price * 100 <= (100 + band) * latest : price * 100 >= (100 - band) * latest;
    }

    private static int firstWithin(int latest, int band) {
        int rank = Prices.ALL.indexOf(latest);
        while (rank > 0 && isWithin(latest, band, Prices.ALL.get(rank - 1))) {
            rank--;
        }
        return rank;
    }

    private static int lastWithin(int latest, int band) {
        int rank = Prices.ALL.indexOf(latest);
        while (rank + 1 < Prices.ALL.size() && isWithin(latest, band, Prices.ALL.get(rank + 1))) {
            rank++;
        }
        return rank;
    }

    private static void bandAt(int latest, int band, int rank) {
        if (rank < 0 || rank >= Prices.ALL.size()) {
            return;
        }
        int price = Prices.ALL.get(rank);
        boolean within = isWithin(latest, band, price);
        for (char side : new char[] {'b', 's'}) {
            MatchFloor x = traded(band, latest);
            x.send(2, side, price, 1, 1);
            x.send(3, side == 'b' ? 's' : 'b', price, 1, 1);
            String what = "band " + band + " from " + latest + " to " + price + " of side " + side;
            checks.same(what + " trades", x.tradeCount(), within ? 2 : 1);
            checks.same(what + " halts", x.isHalted(), !within);
        }
    }

    /** "0 for none": from end to end. */
    private static void bandOfZero() {
        for (int[] way : new int[][] {{1, 300}, {300, 1}, {1, 1}, {300, 300}}) {
            MatchFloor x = traded(0, way[0]);
            x.send(2, 's', way[1], 1, 1);
            x.send(3, 'b', way[1], 1, 1);
            checks.same("no band from " + way[0] + " to " + way[1], x.tradeCount(), 2);
            checks.fails("halted", x.isHalted());
        }
        MatchFloor y = traded(1, 20);
        y.setBand(0);
        y.send(2, 's', 300, 1, 1);
        y.send(3, 'b', 300, 1, 1);
        checks.same("a band that was taken away", y.tradeCount(), 2);
    }

    /** "if there is no band or no trade has been made". */
    private static void bandWithoutTrade() {
        for (int price : new int[] {1, 300}) {
            MatchFloor x = new MatchFloor();
            x.setBand(1);
            x.send(0, 's', price, 1, 1);
            x.send(0, 'b', price, 1, 1);
            checks.same("cancelled by the rule is no trade", x.tradeCount(), 0);
            x.send(1, 's', price, 1, 1);
            checks.same("the first trade at " + price, x.tradePrice(0), price);
            checks.fails("halted", x.isHalted());
        }
    }

    /** "the order that comes in does not trade, and comes into the book with what is left". */
    private static void bandHaltsWithWhatIsLeft() {
        MatchFloor x = traded(10, 100);
        x.send(0, 'b', 88, 5, 5);
        x.send(2, 's', 88, 99, 7);
        checks.holds("at once", x.isHalted());
        checks.same("all is left", Look.order(x, 3), "a 99/7 0.0");
        checks.same("no trade", x.tradeCount(), 1);
        checks.same("the other one stays", Look.order(x, 2), "a 5/5 0.0");
        checks.same("the floor is crossed", x.spread(), 0);
        MatchFloor y = traded(10, 100);
        y.send(0, 'b', 90, 5, 5);
        y.send(0, 'b', 80, 5, 5);
        y.send(2, 's', 80, 6, 7);
        checks.holds("at the second level", y.isHalted());
        checks.same("1 is left", Look.order(y, 4), "a 1/1 " + 5f / 6f);
        checks.same("the trade is made", Look.trade(y, 0), "5@90 b2 s4");
    }

    /** The band is looked at before each trade, from the price of the trade before. */
    private static void bandLooksAtEachLevel() {
        MatchFloor x = traded(50, 1);
        x.send(2, 's', 1, 2, 1);
        x.send(2, 's', 2, 5, 1);
        x.send(3, 'b', 300, 9, 9);
        checks.same("from 1 to 2 is too far", x.tradeCount(), 3);
        checks.holds("halted", x.isHalted());
        MatchFloor y = traded(50, 2);
        for (int price : new int[] {3, 4, 6, 9, 13, 19, 28, 42, 63, 94, 140, 210, 300}) {
            y.send(2, 's', price, 1, 1);
        }
        y.send(3, 'b', 300, 99, 99);
        checks.same("half more each time", y.tradePrice(0), 300);
        checks.fails("halted", y.isHalted());
        checks.same("all are met", y.tradeCount(), 14);
    }

    /** "While the floor is halted, orders come into the book without meeting others." */
    private static void haltedFloorMeetsNone() {
        for (char rule : new char[] {'r', 'i'}) {
            MatchFloor x = traded(10, 20);
            x.setRule(rule);
            x.send(2, 's', 20, 5, 5);
            x.halt();
            x.send(2, 'b', 20, 5, 2);
            x.send(3, 'b', 300, 5, 2);
            x.send(4, 's', 1, 5, 2);
            checks.same("states by the rule " + rule, "" + x.stateOf(2) + x.stateOf(3) + x.stateOf(4) + x.stateOf(5),
                    "aaaa");
            checks.same("no trade", x.tradeCount(), 1);
            checks.same("to buy", Look.side(x, 'b'), "\nb 300: 2 of 5 [4]\nb 20: 2 of 5 [3]");
            checks.same("to sell", Look.side(x, 's'), "\ns 1: 2 of 5 [5]\ns 20: 5 of 5 [2]");
        }
    }
}

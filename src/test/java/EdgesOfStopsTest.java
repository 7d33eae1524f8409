/** The edges in the document's sentences on stops, limits, numbers and kept trades, one by one. */
public final class EdgesOfStopsTest {
    private static final Checks checks = new Checks("EdgesOfStopsTest");

    private EdgesOfStopsTest() {
    }

    public static void main(String[] args) {
        triggerOverAllPrices();
        noTradeYet();
        latestTradeOnly();
        readyStopWaits();
        afterEachWayOfComingIn();
        notAfterOtherCalls();
        lowestNumberOfBothSides();
        latestIsLookedAtAnew();
        oneSetsOffTheNext();
        endsWhenTheFloorHalts();
        ownOrdersOfStops();
        sliceIsWhatIsLeft();
        sixtyStopsAfterAnAuction();
        sixtyLiveOrders();
        roomAfterEachWayOfLeaving();
        noRoomInVain();
        numbersWithoutGaps();
        keptTrades();
        fiveHundredAndTwelveCalls();
        checks.end();
    }

    private static void trade(MatchFloor x, int price) {
        x.send(4, 's', price, 1, 1);
        x.send(5, 'b', price, 1, 1);
    }

    /** A floor on which owners 4 and 5 traded 1 at the price, by the orders 0 and 1. */
    private static MatchFloor traded(int price) {
        MatchFloor x = new MatchFloor();
        trade(x, price);
        return x;
    }

    /** "until the price of the latest trade is not less than its trigger, for buying, or not greater, for selling". */
    private static void triggerOverAllPrices() {
        for (int rank = 0; rank < Prices.ALL.size(); rank++) {
            int trigger = Prices.ALL.get(rank);
            stopAt('b', trigger, trigger, true);
            stopAt('s', trigger, trigger, true);
            if (rank > 0) {
                stopAt('b', trigger, Prices.ALL.get(rank - 1), false);
                stopAt('s', trigger, Prices.ALL.get(rank - 1), true);
            }
            if (rank + 1 < Prices.ALL.size()) {
                stopAt('b', trigger, Prices.ALL.get(rank + 1), true);
                stopAt('s', trigger, Prices.ALL.get(rank + 1), false);
            }
        }
    }

    private static void stopAt(char side, int trigger, int latest, boolean setOff) {
        MatchFloor x = new MatchFloor();
        x.sendStop(0, side, trigger, 50, 3);
        trade(x, latest);
        String what = side + " with trigger " + trigger + " at " + latest;
        checks.same(what, "" + x.stateOf(0), setOff ? "a" : "w");
        checks.same(what + ": waiting", x.waiting(), setOff ? 0 : 1);
    }

    /** Without a trade there is no latest one, so even the widest triggers wait. */
    private static void noTradeYet() {
        MatchFloor x = new MatchFloor();
        x.sendStop(0, 'b', 1, 20, 3);
        x.sendStop(0, 's', 300, 30, 3);
        x.send(1, 'b', 1, 1, 1);
        x.send(1, 's', 1, 1, 1);
        checks.same("an own order that was cancelled is no trade", x.waiting(), 2);
        x.halt();
        x.auction();
        checks.same("nor is an auction without a price", x.waiting(), 2);
        x.send(2, 'b', 1, 1, 1);
        checks.same("the first trade sets both off", x.waiting(), 0);
        checks.same("the trade", Look.trades(x), "1@1 b4 s3");
    }

    /** "the price of the latest trade": an earlier one that would do is no matter. */
    private static void latestTradeOnly() {
        MatchFloor x = traded(30);
        trade(x, 20);
        x.sendStop(0, 'b', 25, 25, 3);
        x.send(1, 'b', 2, 1, 1);
        checks.same("to buy, 30 before 20", x.stateOf(4), 'w');
        MatchFloor y = traded(20);
        trade(y, 30);
        y.sendStop(0, 's', 25, 40, 3);
        y.send(1, 'b', 2, 1, 1);
        checks.same("to sell, 20 before 30", y.stateOf(4), 'w');
        MatchFloor z = new MatchFloor();
        z.send(0, 's', 30, 1, 1);
        z.send(0, 's', 31, 1, 1);
        z.sendStop(1, 's', 30, 50, 3);
        z.sendStop(1, 'b', 31, 10, 3);
        z.send(2, 'b', 31, 2, 2);
        checks.same("the last one of several trades of one order", "" + z.stateOf(2) + z.stateOf(3), "wa");
    }

    /** "A stop that could be set off at once waits until then as well." */
    private static void readyStopWaits() {
        MatchFloor x = traded(20);
        x.send(1, 's', 25, 5, 5);
        checks.same("its number", x.sendStop(0, 'b', 1, 25, 3), 3);
        checks.same("it waits", Look.order(x, 3), "w 3 0.0");
        x.sendStop(0, 'b', 20, 25, 3);
        checks.same("so does the next one", x.waiting(), 2);
        checks.same("no trade", x.tradeCount(), 1);
        x.send(2, 'b', 1, 1, 1);
        checks.same("until an order has come in", Look.trades(x), "2@25 b4 s2, 3@25 b3 s2, 1@20 b1 s0");
    }

    /** "Whenever an order has come in": into the book, filled at once, or cancelled at once. */
    private static void afterEachWayOfComingIn() {
        MatchFloor x = traded(20);
        x.send(0, 's', 30, 5, 5);
        x.sendStop(1, 'b', 20, 10, 1);
        x.send(2, 'b', 2, 1, 1);
        checks.same("after one that came into the book", x.stateOf(3), 'a');
        x.sendStop(1, 'b', 30, 10, 1);
        x.send(2, 'b', 30, 1, 1);
        checks.same("after one that was filled at once", x.stateOf(5), 'a');
        x.sendStop(1, 'b', 30, 10, 1);
        x.setRule('i');
        x.send(0, 'b', 30, 1, 1);
        checks.same("cancelled at once", x.stateOf(8), 'c');
        checks.same("after one that was cancelled at once", x.stateOf(7), 'a');
        x.sendStop(1, 'b', 30, 10, 1);
        x.setRule('r');
        x.send(0, 'b', 30, 1, 1);
        checks.same("after one that cancelled another", "" + x.stateOf(2) + x.stateOf(9), "ca");
    }

    /** Only orders that come in and auctions set stops off. */
    private static void notAfterOtherCalls() {
        MatchFloor x = traded(20);
        x.send(0, 'b', 5, 9, 9);
        x.sendStop(1, 'b', 20, 10, 5);
        x.sendStop(1, 'b', 20, 10, 5);
        x.reduce(2, 8);
        x.reduce(3, 4);
        x.cancel(4);
        x.cancel(2);
        x.setBand(50);
        x.setRule('i');
        checks.illegalState("auction of an open floor", () -> x.auction());
        checks.illegalArgument("an order that is refused", () -> x.send(1, 'b', 20, 0, 1));
        checks.noSuch("cancel of none", () -> x.cancel(5));
        checks.same("it still waits", x.stateOf(3), 'w');
        x.halt();
        x.send(2, 'b', 8, 1, 1);
        checks.same("and while the floor is halted", x.stateOf(3), 'w');
        checks.same("an auction", x.auction(), 0);
        checks.same("sets it off", x.stateOf(3), 'a');
    }

    /** "the waiting stop with the lowest number that can be set off comes in", whatever its side or trigger is. */
    private static void lowestNumberOfBothSides() {
        MatchFloor x = new MatchFloor();
        x.sendStop(0, 'b', 21, 40, 1);
        x.sendStop(1, 's', 20, 30, 2);
        x.sendStop(2, 'b', 1, 30, 1);
        x.sendStop(3, 's', 300, 30, 2);
        trade(x, 20);
        checks.same("1, 2, 0 and 3", Look.trades(x), "1@30 b0 s1, 1@30 b2 s1, 1@20 b5 s4");
        checks.same("to sell", Look.side(x, 's'), "\ns 30: 2 of 2 [3]");
    }

    /** "Before each stop, the latest trade is looked at anew": one that could be set off before can wait again. */
    private static void latestIsLookedAtAnew() {
        MatchFloor x = new MatchFloor();
        x.sendStop(0, 'b', 20, 30, 2);
        x.sendStop(1, 's', 29, 40, 1);
        x.sendStop(2, 'b', 30, 10, 1);
        x.send(3, 's', 30, 2, 2);
        trade(x, 20);
        checks.same("after a trade at 30", "" + x.stateOf(0) + x.stateOf(1) + x.stateOf(2), "fwa");
    }

    /** "this is repeated": each one's trade sets off the next, downwards in number as well. */
    private static void oneSetsOffTheNext() {
        MatchFloor x = new MatchFloor();
        for (int i = 0; i < 10; i++) {
            x.send(0, 's', 31 + i, 1, 1);
        }
        for (int i = 9; i >= 1; i--) {
            x.sendStop(1, 'b', 30 + i, 31 + i, 1);
        }
        x.send(2, 'b', 31, 1, 1);
        checks.same("none waits", x.waiting(), 0);
        checks.same("ten trades", x.tradeCount(), 10);
        checks.same("the last one", Look.trade(x, 0), "1@40 b10 s9");
        checks.same("the first stop was the last sent", Look.trade(x, 8), "1@32 b18 s1");
    }

    /** "as long as the floor is open". */
    private static void endsWhenTheFloorHalts() {
        MatchFloor x = traded(20);
        x.setBand(10);
        x.send(0, 's', 22, 2, 2);
        x.send(0, 's', 30, 2, 2);
        x.sendStop(1, 'b', 20, 22, 2);
        x.sendStop(1, 'b', 20, 30, 2);
        x.sendStop(2, 'b', 20, 15, 2);
        x.send(3, 'b', 5, 1, 1);
        checks.same("the first trades, the second halts, the third waits",
                "" + x.stateOf(4) + x.stateOf(5) + x.stateOf(6), "faw");
        checks.holds("halted", x.isHalted());
        x.setBand(0);
        checks.same("its volume", x.auction(), 2);
        checks.same("the third comes in", x.stateOf(6), 'a');
        MatchFloor y = traded(20);
        y.setBand(10);
        y.send(0, 's', 30, 2, 2);
        y.sendStop(1, 'b', 20, 15, 2);
        y.send(2, 'b', 30, 2, 2);
        checks.same("an order that halts the floor", "" + y.isHalted() + y.stateOf(3), "truew");
    }

    /** A stop "comes in as an order": the rules for orders of one owner hold for it. */
    private static void ownOrdersOfStops() {
        for (char rule : new char[] {'r', 'i'}) {
            MatchFloor x = traded(20);
            x.setRule(rule);
            x.send(2, 's', 20, 3, 3);
            x.send(1, 's', 20, 4, 2);
            x.sendStop(1, 'b', 20, 20, 9);
            x.sendStop(3, 'b', 20, 10, 1);
            x.send(4, 'b', 1, 1, 1);
            checks.same("the stop, rule " + rule, Look.order(x, 4),
                    rule == 'r' ? "a 6/6 " + 3f / 9f : "c 6 " + 3f / 9f);
            checks.same("the order in the book", Look.order(x, 3), rule == 'r' ? "c 4 0.0" : "a 4/2 0.0");
            checks.same("the next stop", x.stateOf(5), 'a');
        }
    }

    /** "comes in as an order, whose slice is what is left of it". */
    private static void sliceIsWhatIsLeft() {
        for (int amount : new int[] {1, 2, 98, 99}) {
            MatchFloor x = traded(20);
            x.sendStop(0, 'b', 20, 15, amount);
            checks.illegalState("a stop shows nothing", () -> x.shownOf(2));
            x.send(1, 'b', 1, 1, 1);
            checks.same("all of " + amount, x.shownOf(2), amount);
        }
        MatchFloor y = traded(20);
        y.send(1, 's', 25, 40, 40);
        y.sendStop(0, 'b', 20, 25, 99);
        checks.same("99 before", y.reduce(3, 41), 99);
        y.send(1, 'b', 1, 1, 1);
        checks.same("40 of 41 are traded", Look.order(y, 3), "a 1/1 " + 40f / 99f);
    }

    /** As many stops as there can be, all set off by one auction, which needs no price. */
    private static void sixtyStopsAfterAnAuction() {
        MatchFloor x = traded(20);
        for (int i = 0; i < 60; i++) {
            x.sendStop(i % 6, 'b', 20, 1 + i % 7, 99);
        }
        checks.same("waiting", x.waiting(), 60);
        checks.same("active", x.halt(), 0);
        checks.same("no price", x.auction(), 0);
        checks.same("none waits", x.waiting(), 0);
        checks.same("active", x.halt(), 60);
        checks.same("the last one", Look.order(x, 61), "a 99/99 0.0");
        checks.same("the best level", x.levelPrice('b', 0), 7);
    }

    /** "At most 60 orders are active or waiting at a time." */
    private static void sixtyLiveOrders() {
        for (int stops : new int[] {0, 1, 30, 59, 60}) {
            Refusal.Story full = x -> {
                for (int i = 0; i < 60; i++) {
                    sendOne(x, i < stops);
                }
            };
            MatchFloor x = new MatchFloor();
            full.tell(x);
            checks.same("numbers with " + stops + " stops", x.orderCount(), 60);
            checks.same("waiting", x.waiting(), stops);
            Class<IllegalStateException> due = IllegalStateException.class;
            Refusal.check(checks, "the 61st with " + stops + " stops", full, due, y -> y.send(0, 'b', 20, 1, 1));
            Refusal.check(checks, "one that could trade", full, due, y -> y.send(1, 's', 1, 1, 1));
            Refusal.check(checks, "one of the same owner", full, due, y -> y.send(0, 's', 1, 1, 1));
            Refusal.check(checks, "a stop", full, due, y -> y.sendStop(0, 's', 1, 1, 1));
        }
    }

    private static void sendOne(MatchFloor x, boolean stop) {
        if (stop) {
            x.sendStop(0, 'b', 300, 20, 2);
        } else {
            x.send(0, 'b', 20, 2, 1);
        }
    }

    /** A floor with 59 orders to buy at 20 of owner 0, and one of owner 1, which stands first. */
    private static MatchFloor sixty() {
        MatchFloor x = new MatchFloor();
        x.send(1, 'b', 20, 2, 1);
        for (int i = 0; i < 59; i++) {
            x.send(0, 'b', 20, 2, 1);
        }
        return x;
    }

    /** "active or waiting": what was filled or cancelled makes room, for one. */
    private static void roomAfterEachWayOfLeaving() {
        MatchFloor x = sixty();
        x.cancel(30);
        roomForOne("after cancel", x, 60);
        x.cancel(0);
        checks.same("one that is filled at once", x.send(1, 's', 20, 1, 1), 61);
        roomForOne("takes no room", x, 62);
        MatchFloor y = sixty();
        y.cancel(59);
        y.setRule('i');
        y.cancel(0);
        checks.same("one that is cancelled at once", y.send(0, 's', 20, 1, 1), 60);
        checks.same("its state", y.stateOf(60), 'c');
        roomForOne("takes no room", y, 61, 62);
        MatchFloor z = sixty();
        z.cancel(0);
        checks.same("one that cancels all others", z.send(0, 's', 20, 1, 1), 60);
        checks.same("is the only one", z.halt(), 1);
        MatchFloor u = sixty();
        u.halt();
        u.cancel(59);
        u.send(2, 's', 20, 2, 2);
        checks.illegalState("full while halted", () -> u.send(2, 's', 20, 2, 2));
        checks.same("an auction fills two", u.auction(), 2);
        roomForOne("after it", u, 61, 62);
    }

    private static void roomForOne(String what, MatchFloor x, int... numbers) {
        for (int number : numbers) {
            checks.same(what, x.send(0, 'b', 19, 1, 1), number);
        }
        checks.illegalState(what + ": no more", () -> x.send(0, 'b', 19, 1, 1));
        checks.illegalState(what + ": no stop", () -> x.sendStop(0, 'b', 300, 19, 1));
    }

    /** An order that was reduced, met in part or shown anew takes its room as before. */
    private static void noRoomInVain() {
        MatchFloor x = sixty();
        x.cancel(59);
        checks.same("it trades with the first one", x.send(2, 's', 20, 1, 1), 60);
        checks.same("which moves back", x.orderAt('b', 0, 58), 0);
        checks.same("one for the cancelled one", x.send(2, 'b', 20, 9, 9), 61);
        x.reduce(61, 1);
        checks.illegalState("no more", () -> x.send(2, 'b', 20, 9, 9));
    }

    /** "Orders are numbered from 0 in the order in which they came." */
    private static void numbersWithoutGaps() {
        MatchFloor x = new MatchFloor();
        checks.illegalArgument("a refused order", () -> x.send(0, 'b', 20, 100, 1));
        checks.illegalArgument("a refused stop", () -> x.sendStop(0, 'b', 20, 20, 0));
        checks.same("the first one", x.sendStop(0, 'b', 20, 20, 1), 0);
        checks.same("the second one", x.send(0, 's', 20, 1, 1), 1);
        checks.same("the third one", x.send(1, 'b', 20, 1, 1), 2);
        checks.same("the stop has its number still", x.stateOf(0), 'a');
        checks.illegalArgument("a refused order", () -> x.send(-1, 'b', 20, 1, 1));
        x.cancel(0);
        checks.same("the fourth one", x.send(1, 'b', 20, 1, 1), 3);
        checks.same("so many came", x.orderCount(), 4);
    }

    /** "The latest 50 trades are kept." */
    private static void keptTrades() {
        for (int count : new int[] {0, 1, 2, 49, 50, 51, 52, 99, 100, 101, 149, 150, 151}) {
            MatchFloor x = new MatchFloor();
            for (int i = 0; i < count; i++) {
                x.send(0, 's', 1 + i % 97, 1 + i % 99, 99);
                x.send(1, 'b', 1 + i % 97, 1 + i % 99, 99);
            }
            checks.same("trades", x.tradeCount(), count);
            int kept = Math.min(count, 50);
            for (int rank = 0; rank < kept; rank++) {
                int i = count - 1 - rank;
                checks.same("rank " + rank + " of " + count, Look.trade(x, rank),
                        (1 + i % 99) + "@" + (1 + i % 97) + " b" + (2 * i + 1) + " s" + 2 * i);
            }
            checks.noSuch("price of rank " + kept + " of " + count, () -> x.tradePrice(kept));
            checks.noSuch("amount of rank " + kept + " of " + count, () -> x.tradeAmount(kept));
            checks.noSuch("buyer of rank " + kept + " of " + count, () -> x.tradeBuyer(kept));
            checks.noSuch("seller of rank " + kept + " of " + count, () -> x.tradeSeller(kept));
            checks.noSuch("rank -1 of " + count, () -> x.tradePrice(-1));
        }
    }

    /** "An object is used for at most 512 calls after it has been made": the last ones hold as well. */
    private static void fiveHundredAndTwelveCalls() {
        MatchFloor x = new MatchFloor();
        for (int i = 0; i < 510; i++) {
            x.send(i % 2, i % 2 == 0 ? 's' : 'b', 20, 99, 99);
        }
        checks.same("the 511th call", x.send(0, 's', 20, 99, 99), 510);
        checks.same("the 512th call", x.send(1, 'b', 20, 99, 99), 511);
        MatchFloor y = new MatchFloor();
        for (int i = 0; i < 255; i++) {
            y.send(0, 's', 300, 99, 1);
            y.send(1, 'b', 300, 99, 99);
        }
        checks.same("volume", y.volume(), 255 * 99);
        checks.same("mean", y.meanPrice(), 300.0);
        MatchFloor z = new MatchFloor();
        for (int i = 0; i < 255; i++) {
            z.send(0, 's', 1, 99, 1);
            z.send(1, 'b', 1, 99, 99);
        }
        checks.same("trades", z.tradeCount(), 255 * 99);
        checks.same("the latest one", z.tradeSeller(49), 508);
    }
}

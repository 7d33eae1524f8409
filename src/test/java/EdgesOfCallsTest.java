import java.util.NoSuchElementException;

/** The edges that promises 1 to 35 name for each call: what is just allowed, just not, empty, and full. */
public final class EdgesOfCallsTest {
    private static final Checks checks = new Checks("EdgesOfCallsTest");
    private static final Class<IllegalArgumentException> ARGUMENT = IllegalArgumentException.class;
    private static final Class<IllegalStateException> STATE = IllegalStateException.class;
    private static final Class<NoSuchElementException> NONE = NoSuchElementException.class;
    private static final Class<IndexOutOfBoundsException> PLACE = IndexOutOfBoundsException.class;
    /** Numbers that are in no range of the document, some of which would be if their upper bits fell away. */
    private static final int[] FAR_OFF = {-65536, -512, -256, -100, -60, -2, -1, 512, 1000, 65536, 65537, 1 << 24,
        Integer.MIN_VALUE, Integer.MIN_VALUE + 1, Integer.MAX_VALUE - 1, Integer.MAX_VALUE};

    private EdgesOfCallsTest() {
    }

    public static void main(String[] args) {
        promise01();
        promise02();
        promise03();
        promise04();
        promise05Left();
        promise05States();
        promise06();
        promise07();
        promise08();
        promise09();
        promise10();
        promises11To14Numbers();
        promise12();
        promise13();
        promise14();
        promise15();
        promises16To21Sides();
        promises17To21Levels();
        promise21Places();
        promise22();
        promise23();
        promises24And25();
        promise26();
        promises27To31();
        promises32And33();
        promise34();
        promise35();
        checks.end();
    }

    /** "Creates a floor without orders, which is open, without a band and with the rule 'r'." */
    private static void promise01() {
        emptyFloor("a new floor", new MatchFloor());
        MatchFloor x = new MatchFloor();
        checks.illegalState("it is open, so no auction", () -> x.auction());
        checks.same("its band", x.setBand(0), 0);
        checks.same("its rule", x.setRule('r'), 'r');
        checks.same("its active orders", x.halt(), 0);
        emptyFloor("a halted floor", x);
        checks.same("its auction", x.auction(), 0);
        emptyFloor("a floor after an auction", x);
        checks.same("its first order", x.send(0, 's', 20, 5, 5), 0);
        x.send(0, 'b', 20, 5, 5);
        checks.same("its rule is at work", "" + x.stateOf(0) + x.stateOf(1), "ca");
        MatchFloor y = new MatchFloor();
        for (int price : new int[] {1, 300}) {
            y.send(0, 's', price, 1, 1);
            y.send(1, 'b', price, 1, 1);
        }
        checks.same("no band is at work", y.tradeCount(), 2);
        emptyFloor("another new floor", new MatchFloor());
    }

    private static void emptyFloor(String what, MatchFloor x) {
        checks.same(what, Look.at(x), "halted " + x.isHalted() + " waiting 0 owners 0 consistent true\n"
                + "spread none auction none by trying none\ntrades 0\nvolume 0 mean none");
        checks.same(what + ": orderCount", x.orderCount(), 0);
        for (int number = -1; number <= 1; number++) {
            int order = number;
            checks.noSuch(what + ": stateOf " + order, () -> x.stateOf(order));
            checks.noSuch(what + ": leftOf " + order, () -> x.leftOf(order));
            checks.noSuch(what + ": shownOf " + order, () -> x.shownOf(order));
            checks.noSuch(what + ": filledShare " + order, () -> x.filledShare(order));
            checks.noSuch(what + ": cancel " + order, () -> x.cancel(order));
            checks.noSuch(what + ": reduce " + order, () -> x.reduce(order, 1));
            checks.noSuch(what + ": tradePrice " + order, () -> x.tradePrice(order));
            checks.noSuch(what + ": tradeAmount " + order, () -> x.tradeAmount(order));
            checks.noSuch(what + ": tradeBuyer " + order, () -> x.tradeBuyer(order));
            checks.noSuch(what + ": tradeSeller " + order, () -> x.tradeSeller(order));
        }
        for (char side : new char[] {'b', 's'}) {
            checks.same(what + ": levels", x.levels(side), 0);
            checks.noSuch(what + ": levelPrice", () -> x.levelPrice(side, 0));
            checks.noSuch(what + ": shownAt", () -> x.shownAt(side, 0));
            checks.noSuch(what + ": leftAt", () -> x.leftAt(side, 0));
            checks.noSuch(what + ": ordersAt", () -> x.ordersAt(side, 0));
            checks.noSuch(what + ": orderAt", () -> x.orderAt(side, 0, 0));
        }
        checks.noSuch(what + ": spread", () -> x.spread());
        checks.noSuch(what + ": auctionPrice", () -> x.auctionPrice());
        checks.noSuch(what + ": auctionPriceByTrying", () -> x.auctionPriceByTrying());
        checks.throwing(what + ": meanPrice", ArithmeticException.class, () -> x.meanPrice());
        checks.same(what + ": volumeAt 1", x.volumeAt(1), 0);
        checks.same(what + ": volumeAt 300", x.volumeAt(300), 0);
    }

    /** "its amount, 1 to 99", "its slice, 1 to 99". */
    private static void promise02() {
        for (int number = 1; number <= 99; number++) {
            MatchFloor x = new MatchFloor();
            checks.same("amount " + number, x.send(0, 'b', 20, number, 99), 0);
            checks.same("slice " + number, x.send(5, 'b', 21, 99, number), 1);
            checks.same("amount", x.leftOf(0), number);
            checks.same("slice", x.shownOf(1), number);
        }
        for (int number : new int[] {0, 100, 101}) {
            refusedAmounts(number);
        }
        for (int number : FAR_OFF) {
            refusedAmounts(number);
        }
        refusedSides("send", (x, side) -> x.send(0, side, 20, 5, 5));
    }

    private static void refusedAmounts(int number) {
        Refusal.check(checks, "amount " + number, ARGUMENT, x -> x.send(0, 'b', 20, number, 5));
        Refusal.check(checks, "slice " + number, ARGUMENT, x -> x.send(0, 'b', 20, 5, number));
        Refusal.check(checks, "amount of a stop " + number, ARGUMENT, x -> x.sendStop(0, 'b', 20, 20, number));
    }

    /** A call that takes a side. */
    private interface SideCall {
        void call(MatchFloor floor, char side);
    }

    /** "'b' for buying or 's' for selling": all others up to 400, and those with an upper byte. */
    private static void refusedSides(String what, SideCall call) {
        Refusal.Story book = x -> {
            x.send(0, 'b', 20, 5, 5);
            x.send(1, 's', 21, 5, 5);
        };
        for (int sign = 0; sign <= 400; sign++) {
            char side = (char) sign;
            if (side != 'b' && side != 's') {
                Refusal.check(checks, what + " of side " + sign, book, ARGUMENT, x -> call.call(x, side));
            }
        }
        for (char side : new char[] {'b' + 512, 's' + 512, 'b' + 0x8000, 's' + 0x8000, 0xffff}) {
            Refusal.check(checks, what + " of side " + (int) side, book, ARGUMENT, x -> call.call(x, side));
        }
    }

    /** The same for stops. */
    private static void promise03() {
        for (int number = 1; number <= 99; number++) {
            MatchFloor x = new MatchFloor();
            checks.same("amount " + number, x.sendStop(0, 's', 300, 1, number), 0);
            checks.same("left", x.leftOf(0), number);
            checks.same("state", x.stateOf(0), 'w');
            checks.same("not in the book", x.levels('s'), 0);
        }
        refusedSides("sendStop", (x, side) -> x.sendStop(0, side, 20, 20, 5));
    }

    /** Four orders: 0 filled, 1 cancelled, 2 active with 4 of 9 left, 3 waiting. */
    private static void fourStates(MatchFloor x) {
        x.send(0, 's', 20, 5, 5);
        x.send(1, 's', 30, 8, 3);
        x.send(2, 'b', 20, 9, 3);
        x.cancel(1);
        x.sendStop(3, 'b', 200, 100, 7);
    }

    /** "Throws NoSuchElementException if there is no such order", and "if it is neither active nor waiting". */
    private static void promise04() {
        for (int number : FAR_OFF) {
            Refusal.check(checks, "cancel " + number, EdgesOfCallsTest::fourStates, NONE, x -> x.cancel(number));
        }
        Refusal.check(checks, "cancel 4 of 4", EdgesOfCallsTest::fourStates, NONE, x -> x.cancel(4));
        Refusal.check(checks, "cancel a filled one", EdgesOfCallsTest::fourStates, STATE, x -> x.cancel(0));
        Refusal.check(checks, "cancel a cancelled one", EdgesOfCallsTest::fourStates, STATE, x -> x.cancel(1));
        MatchFloor x = new MatchFloor();
        fourStates(x);
        checks.same("the active one", x.cancel(2), 4);
        checks.same("the waiting one, which is the last", x.cancel(3), 7);
        checks.illegalState("twice", () -> x.cancel(2));
        checks.illegalState("twice a stop", () -> x.cancel(3));
        checks.same("all are gone", x.levels('b') + x.waiting(), 0);
        MatchFloor y = new MatchFloor();
        y.send(0, 's', 20, 1, 1);
        y.send(1, 's', 20, 99, 1);
        checks.same("the least", y.cancel(0), 1);
        checks.same("the greatest", y.cancel(1), 99);
        y.send(0, 's', 20, 5, 5);
        y.send(0, 'b', 20, 5, 5);
        checks.illegalState("one that the rule has cancelled", () -> y.cancel(2));
        checks.same("what is left stays", y.leftOf(2), 5);
    }

    /** "what shall be left, at least 1", "the number is not less than what is left". */
    private static void promise05Left() {
        for (int left = 1; left <= 3; left++) {
            MatchFloor x = new MatchFloor();
            x.send(0, 'b', 20, 4, 2);
            x.sendStop(0, 'b', 300, 20, 4);
            checks.same("4 to " + left, x.reduce(0, left), 4);
            checks.same("a stop from 4 to " + left, x.reduce(1, left), 4);
            checks.same("an order", Look.order(x, 0), "a " + left + "/" + Math.min(left, 2) + " 0.0");
            checks.same("a stop", Look.order(x, 1), "w " + left + " 0.0");
        }
        for (int number : FAR_OFF) {
            Class<? extends RuntimeException> due = number < 1 ? ARGUMENT : STATE;
            Refusal.check(checks, "4 to " + number, EdgesOfCallsTest::fourStates, due, x -> x.reduce(2, number));
        }
        int[][] refused = {{2, 4}, {2, 5}, {2, 9}, {2, 99}, {2, 100}, {3, 7}, {3, 8}, {3, 99}};
        for (int[] one : refused) {
            Refusal.check(checks, "order " + one[0] + " to " + one[1], EdgesOfCallsTest::fourStates, STATE,
                    x -> x.reduce(one[0], one[1]));
        }
        Refusal.Story oneLeft = x -> x.send(0, 'b', 20, 1, 1);
        Refusal.check(checks, "1 to 1", oneLeft, STATE, x -> x.reduce(0, 1));
        Refusal.check(checks, "1 to 0", oneLeft, ARGUMENT, x -> x.reduce(0, 0));
        MatchFloor y = new MatchFloor();
        y.send(0, 'b', 20, 99, 99);
        for (int left = 98; left >= 1; left--) {
            checks.same("to " + left, y.reduce(0, left), left + 1);
            checks.same("it shows no more", y.shownOf(0), left);
        }
        checks.illegalState("1 is left", () -> y.reduce(0, 1));
    }

    /** The order of the exceptions, in each state. */
    private static void promise05States() {
        for (int number : FAR_OFF) {
            for (int left : new int[] {Integer.MIN_VALUE, -1, 0, 1, Integer.MAX_VALUE}) {
                Refusal.check(checks, "order " + number + " to " + left, EdgesOfCallsTest::fourStates, NONE,
                        x -> x.reduce(number, left));
            }
        }
        Refusal.check(checks, "order 4 of 4 to 0", EdgesOfCallsTest::fourStates, NONE, x -> x.reduce(4, 0));
        for (int order = 0; order <= 3; order++) {
            int number = order;
            for (int left : new int[] {0, -1, Integer.MIN_VALUE}) {
                Refusal.check(checks, "order " + order + " to " + left, EdgesOfCallsTest::fourStates, ARGUMENT,
                        x -> x.reduce(number, left));
            }
        }
        for (int left : new int[] {1, 2, 4, 5, 8, 99, Integer.MAX_VALUE}) {
            Refusal.check(checks, "a filled one to " + left, EdgesOfCallsTest::fourStates, STATE,
                    x -> x.reduce(0, left));
            Refusal.check(checks, "a cancelled one to " + left, EdgesOfCallsTest::fourStates, STATE,
                    x -> x.reduce(1, left));
        }
    }

    /** "the band, 0 to 50". */
    private static void promise06() {
        MatchFloor x = new MatchFloor();
        for (int band = 1; band <= 50; band++) {
            checks.same("band " + band, x.setBand(band), band - 1);
        }
        checks.same("the same again", x.setBand(50), 50);
        checks.same("none", x.setBand(0), 50);
        checks.same("none again", x.setBand(0), 0);
        Refusal.Story banded = y -> y.setBand(7);
        for (int band : new int[] {51, 52, 100}) {
            Refusal.check(checks, "band " + band, banded, ARGUMENT, y -> y.setBand(band));
        }
        for (int band : FAR_OFF) {
            Refusal.check(checks, "band " + band, banded, ARGUMENT, y -> y.setBand(band));
        }
    }

    /** "'r' or 'i'". */
    private static void promise07() {
        MatchFloor x = new MatchFloor();
        checks.same("'r' from 'r'", x.setRule('r'), 'r');
        checks.same("'i' from 'r'", x.setRule('i'), 'r');
        checks.same("'i' from 'i'", x.setRule('i'), 'i');
        checks.same("'r' from 'i'", x.setRule('r'), 'i');
        for (int sign = 0; sign <= 400; sign++) {
            refusedRule((char) sign);
        }
        for (char rule : new char[] {'r' + 512, 'i' + 512, 'r' + 0x8000, 'i' + 0x8000, 0xffff}) {
            refusedRule(rule);
        }
    }

    private static void refusedRule(char rule) {
        if (rule != 'r' && rule != 'i') {
            Refusal.check(checks, "rule " + (int) rule, ARGUMENT, x -> x.setRule(rule));
            Refusal.check(checks, "rule " + (int) rule + " after 'i'", x -> x.setRule('i'), ARGUMENT,
                    x -> x.setRule(rule));
        }
    }

    /** "Returns the number of active orders." "Throws IllegalStateException if it is halted". */
    private static void promise08() {
        for (int active : new int[] {0, 1, 59, 60}) {
            MatchFloor x = new MatchFloor();
            for (int i = 0; i < 60; i++) {
                if (i < active) {
                    x.send(0, 'b', 20, 1, 1);
                } else {
                    x.sendStop(0, 'b', 20, 20, 1);
                }
            }
            checks.same("active orders", x.halt(), active);
            checks.illegalState("halted", () -> x.halt());
        }
        MatchFloor y = new MatchFloor();
        fourStates(y);
        checks.same("one of four", y.halt(), 1);
        Refusal.check(checks, "halt again", x -> x.halt(), STATE, x -> x.halt());
        Refusal.Story byBand = x -> {
            x.send(0, 's', 20, 1, 1);
            x.send(1, 'b', 20, 1, 1);
            x.setBand(50);
            x.send(0, 's', 31, 1, 1);
            x.send(1, 'b', 31, 1, 1);
        };
        Refusal.check(checks, "halt after the band", byBand, STATE, x -> x.halt());
    }

    /** "Returns its volume, 0 if it has no price." "Throws IllegalStateException if the floor is open". */
    private static void promise09() {
        Refusal.check(checks, "auction of a new floor", STATE, x -> x.auction());
        Refusal.check(checks, "auction of an open floor", EdgesOfCallsTest::fourStates, STATE, x -> x.auction());
        Refusal.Story held = x -> {
            x.halt();
            x.auction();
        };
        Refusal.check(checks, "auction after one", held, STATE, x -> x.auction());
        for (int amount : new int[] {1, 99}) {
            MatchFloor x = new MatchFloor();
            x.halt();
            x.send(0, 'b', 20, amount, 1);
            x.send(1, 's', 20, amount, 1);
            checks.same("volume", x.auction(), amount);
        }
        MatchFloor y = new MatchFloor();
        y.halt();
        y.send(0, 'b', 20, 99, 1);
        y.send(1, 's', 21, 99, 1);
        checks.same("no price", y.auction(), 0);
    }

    private static void promise10() {
        MatchFloor x = new MatchFloor();
        for (int i = 0; i < 3; i++) {
            checks.fails("open", x.isHalted());
            x.halt();
            checks.holds("halted", x.isHalted());
            x.auction();
        }
        MatchFloor y = new MatchFloor();
        y.halt();
        checks.illegalState("halted", () -> y.halt());
        checks.holds("still halted", y.isHalted());
        y.auction();
        checks.illegalState("open", () -> y.auction());
        checks.fails("still open", y.isHalted());
    }

    /** "Throws NoSuchElementException if there is no such order". */
    private static void promises11To14Numbers() {
        MatchFloor x = new MatchFloor();
        fourStates(x);
        checks.same("states of the first and the last one", "" + x.stateOf(0) + x.stateOf(3), "fw");
        for (int number : FAR_OFF) {
            noOrder(number);
        }
        noOrder(4);
        noOrder(5);
        Refusal.check(checks, "shownOf a filled one", EdgesOfCallsTest::fourStates, STATE, y -> y.shownOf(0));
        Refusal.check(checks, "shownOf a cancelled one", EdgesOfCallsTest::fourStates, STATE, y -> y.shownOf(1));
        Refusal.check(checks, "shownOf a stop", EdgesOfCallsTest::fourStates, STATE, y -> y.shownOf(3));
    }

    private static void noOrder(int number) {
        Refusal.check(checks, "stateOf " + number, EdgesOfCallsTest::fourStates, NONE, x -> x.stateOf(number));
        Refusal.check(checks, "leftOf " + number, EdgesOfCallsTest::fourStates, NONE, x -> x.leftOf(number));
        Refusal.check(checks, "shownOf " + number, EdgesOfCallsTest::fourStates, NONE, x -> x.shownOf(number));
        Refusal.check(checks, "filledShare " + number, EdgesOfCallsTest::fourStates, NONE, x -> x.filledShare(number));
    }

    /** "the amount, 0 if it is filled; if it is cancelled, what was left then." */
    private static void promise12() {
        MatchFloor x = new MatchFloor();
        fourStates(x);
        checks.same("filled", x.leftOf(0), 0);
        checks.same("cancelled", x.leftOf(1), 8);
        checks.same("active", x.leftOf(2), 4);
        checks.same("waiting", x.leftOf(3), 7);
        x.reduce(2, 1);
        x.reduce(3, 1);
        x.cancel(2);
        x.cancel(3);
        checks.same("cancelled with 1 left", x.leftOf(2), 1);
        checks.same("a stop with 1 left", x.leftOf(3), 1);
        x.setRule('i');
        x.send(0, 's', 20, 9, 9);
        x.send(1, 's', 19, 8, 8);
        x.send(0, 'b', 20, 99, 9);
        checks.same("cancelled as it came in", Look.order(x, 6), "c 91 " + 8f / 99f);
    }

    /** The edges of what is shown: a slice, its last one, and what reduce leaves. */
    private static void promise13() {
        MatchFloor x = new MatchFloor();
        x.send(0, 's', 20, 9, 4);
        int[] shown = {3, 2, 1, 4, 3, 2, 1, 1};
        for (int i = 0; i < shown.length; i++) {
            checks.same("before trade " + i, x.shownOf(0), i == 0 ? 4 : shown[i - 1]);
            x.send(1, 'b', 20, 1, 1);
            checks.same("after trade " + i, x.shownOf(0), shown[i]);
        }
        x.send(1, 'b', 20, 1, 1);
        checks.illegalState("filled", () -> x.shownOf(0));
    }

    /** "what was traded divided by its first amount, both converted to float". */
    private static void promise14() {
        for (int amount = 1; amount <= 99; amount++) {
            MatchFloor x = new MatchFloor();
            x.send(0, 's', 20, amount, 99);
            checks.same("nothing of " + amount, x.filledShare(0), 0f);
            x.send(1, 'b', 20, (amount + 1) / 2, 99);
            float due = (float) ((amount + 1) / 2) / (float) amount;
            checks.same("half of " + amount, x.filledShare(0), due);
            checks.same("all of the other one", x.filledShare(1), 1f);
        }
        MatchFloor y = new MatchFloor();
        y.send(0, 's', 20, 99, 99);
        y.reduce(0, 1);
        y.send(1, 'b', 20, 1, 1);
        checks.same("filled with 1 of 99", Look.order(y, 0), "f 0 " + 1f / 99f);
        MatchFloor z = new MatchFloor();
        z.send(0, 's', 20, 3, 3);
        z.sendStop(1, 'b', 300, 20, 3);
        z.cancel(0);
        z.cancel(1);
        checks.same("cancelled, nothing traded", z.filledShare(0), 0f);
        checks.same("a stop", z.filledShare(1), 0f);
    }

    private static void promise15() {
        MatchFloor x = new MatchFloor();
        for (int i = 0; i < 60; i++) {
            x.send(0, 'b', 20, 1, 1);
        }
        checks.same("sixty", x.orderCount(), 60);
        checks.illegalState("full", () -> x.send(0, 'b', 20, 1, 1));
        checks.same("still sixty", x.orderCount(), 60);
        x.cancel(59);
        x.send(0, 'b', 20, 1, 1);
        checks.same("one more", x.orderCount(), 61);
    }

    /** "Throws IllegalArgumentException if the side is neither 'b' nor 's'", whatever the other arguments are. */
    private static void promises16To21Sides() {
        refusedSides("levels", (x, side) -> x.levels(side));
        for (int level : new int[] {0, -1, 1, Integer.MAX_VALUE}) {
            refusedSides("levelPrice of level " + level, (x, side) -> x.levelPrice(side, level));
            refusedSides("shownAt of level " + level, (x, side) -> x.shownAt(side, level));
            refusedSides("leftAt of level " + level, (x, side) -> x.leftAt(side, level));
            refusedSides("ordersAt of level " + level, (x, side) -> x.ordersAt(side, level));
            refusedSides("orderAt of level " + level, (x, side) -> x.orderAt(side, level, 0));
            refusedSides("orderAt of no place", (x, side) -> x.orderAt(side, level, -1));
        }
    }

    /** Two levels to buy, one to sell. */
    private static void threeLevels(MatchFloor x) {
        x.send(0, 'b', 20, 9, 4);
        x.send(1, 'b', 20, 5, 5);
        x.send(2, 'b', 19, 1, 1);
        x.send(3, 's', 21, 99, 98);
    }

    /** "the rank of the level, from 0": the first, the last, and those beside them. */
    private static void promises17To21Levels() {
        MatchFloor x = new MatchFloor();
        threeLevels(x);
        checks.same("the first level to buy", Look.side(x, 'b'), "\nb 20: 9 of 14 [0, 1]\nb 19: 1 of 1 [2]");
        checks.same("the only level to sell", Look.side(x, 's'), "\ns 21: 98 of 99 [3]");
        for (int level : FAR_OFF) {
            noLevel('b', level);
            noLevel('s', level);
        }
        noLevel('b', 2);
        noLevel('b', 3);
        noLevel('s', 1);
        noLevel('s', 2);
        MatchFloor y = new MatchFloor();
        y.send(0, 'b', 20, 1, 1);
        y.sendStop(0, 's', 20, 30, 1);
        checks.same("one side alone", y.levels('b'), 1);
        checks.same("a stop makes no level", y.levels('s'), 0);
        checks.noSuch("a level of the empty side", () -> y.levelPrice('s', 0));
        checks.noSuch("shownAt of the empty side", () -> y.shownAt('s', 0));
        checks.noSuch("leftAt of the empty side", () -> y.leftAt('s', 0));
        checks.noSuch("ordersAt of the empty side", () -> y.ordersAt('s', 0));
        checks.noSuch("orderAt of the empty side", () -> y.orderAt('s', 0, 0));
    }

    private static void noLevel(char side, int level) {
        String what = " of " + side + " " + level;
        Refusal.check(checks, "levelPrice" + what, EdgesOfCallsTest::threeLevels, NONE, x -> x.levelPrice(side, level));
        Refusal.check(checks, "shownAt" + what, EdgesOfCallsTest::threeLevels, NONE, x -> x.shownAt(side, level));
        Refusal.check(checks, "leftAt" + what, EdgesOfCallsTest::threeLevels, NONE, x -> x.leftAt(side, level));
        Refusal.check(checks, "ordersAt" + what, EdgesOfCallsTest::threeLevels, NONE, x -> x.ordersAt(side, level));
        for (int place : new int[] {0, -1, 1, Integer.MAX_VALUE}) {
            Refusal.check(checks, "orderAt" + what + " " + place, EdgesOfCallsTest::threeLevels, NONE,
                    x -> x.orderAt(side, level, place));
        }
    }

    /** "the place of the order, 0 for the first one". */
    private static void promise21Places() {
        int[][] beside = {{'b', 0, 2}, {'b', 0, 3}, {'b', 1, 1}, {'b', 1, 2}, {'s', 0, 1}, {'s', 0, 3}};
        for (int[] one : beside) {
            noPlace((char) one[0], one[1], one[2]);
        }
        for (int place : FAR_OFF) {
            noPlace('b', 0, place);
            noPlace('b', 1, place);
            noPlace('s', 0, place);
        }
    }

    private static void noPlace(char side, int level, int place) {
        Refusal.check(checks, "place " + side + " " + level + " " + place, EdgesOfCallsTest::threeLevels, PLACE,
                x -> x.orderAt(side, level, place));
    }

    /** "the one for selling minus the one for buying", "if a side has no orders". */
    private static void promise22() {
        int[][] cases = {{1, 300, 299}, {99, 100, 1}, {198, 200, 2}, {295, 300, 5}, {1, 2, 1}};
        for (int[] one : cases) {
            MatchFloor x = new MatchFloor();
            x.send(0, 'b', one[0], 1, 1);
            x.send(1, 's', one[1], 1, 1);
            checks.same("from " + one[0] + " to " + one[1], x.spread(), one[2]);
            MatchFloor y = new MatchFloor();
            y.halt();
            y.send(0, 's', one[0], 1, 1);
            y.send(1, 'b', one[1], 1, 1);
            checks.same("crossed, from " + one[1] + " to " + one[0], y.spread(), -one[2]);
            y.cancel(0);
            checks.noSuch("none to sell any more", () -> y.spread());
        }
        Refusal.check(checks, "only to buy", x -> x.send(0, 'b', 20, 1, 1), NONE, x -> x.spread());
        Refusal.check(checks, "only to sell", x -> x.send(0, 's', 20, 1, 1), NONE, x -> x.spread());
        Refusal.check(checks, "only a stop to sell", EdgesOfCallsTest::fourStates, NONE, x -> x.spread());
    }

    private static void promise23() {
        MatchFloor x = new MatchFloor();
        for (int i = 0; i < 60; i++) {
            checks.same("stops", x.waiting(), i);
            x.sendStop(0, i % 2 == 0 ? 'b' : 's', 20, 20, 1);
        }
        checks.same("sixty stops", x.waiting(), 60);
        for (int i = 0; i < 60; i++) {
            x.cancel(i);
            checks.same("cancelled", x.waiting(), 59 - i);
        }
    }

    /** "Throws NoSuchElementException if there is none", and both agree. */
    private static void promises24And25() {
        Refusal.Story uncrossed = x -> {
            x.send(0, 'b', 198, 99, 1);
            x.send(1, 's', 200, 99, 1);
        };
        Refusal.check(checks, "auctionPrice", uncrossed, NONE, x -> x.auctionPrice());
        Refusal.check(checks, "auctionPriceByTrying", uncrossed, NONE, x -> x.auctionPriceByTrying());
        for (int price : Prices.ALL) {
            MatchFloor x = new MatchFloor();
            x.halt();
            x.send(0, 'b', price, 1, 1);
            checks.noSuch("one side", () -> x.auctionPrice());
            checks.noSuch("one side, by trying", () -> x.auctionPriceByTrying());
            x.send(1, 's', price, 1, 1);
            checks.same("auctionPrice", x.auctionPrice(), price);
            checks.same("auctionPriceByTrying", x.auctionPriceByTrying(), price);
            checks.same("volumeAt", x.volumeAt(price), 1);
        }
    }

    /** "Throws IllegalArgumentException if the price is not valid": EdgesOfBookTest asks for every number. */
    private static void promise26() {
        Refusal.Story crossed = x -> {
            x.halt();
            x.send(0, 'b', 300, 99, 1);
            x.send(1, 's', 1, 98, 1);
        };
        for (int price : new int[] {0, 101, 199, 201, 299, 301}) {
            Refusal.check(checks, "volumeAt " + price, crossed, ARGUMENT, x -> x.volumeAt(price));
        }
        MatchFloor x = new MatchFloor();
        crossed.tell(x);
        checks.same("volumeAt 1", x.volumeAt(1), 98);
        checks.same("volumeAt 300", x.volumeAt(300), 98);
    }

    /** "the rank of the trade, 0 for the latest one". */
    private static void promises27To31() {
        Refusal.Story two = x -> {
            x.send(0, 's', 1, 1, 1);
            x.send(1, 'b', 300, 1, 1);
            x.send(2, 'b', 300, 99, 1);
            x.send(3, 's', 300, 99, 99);
        };
        MatchFloor x = new MatchFloor();
        two.tell(x);
        checks.same("one trade for each slice", x.tradeCount(), 100);
        checks.same("the latest", Look.trade(x, 0), "1@300 b2 s3");
        checks.same("the last that is kept", Look.trade(x, 49), "1@300 b2 s3");
        for (int rank : FAR_OFF) {
            noTrade(two, rank);
        }
        noTrade(two, 50);
        noTrade(two, 51);
        noTrade(two, 99);
        noTrade(EdgesOfCallsTest::fourStates, 1);
        noTrade(EdgesOfCallsTest::fourStates, 2);
        noTrade(EdgesOfCallsTest::threeLevels, 0);
    }

    private static void noTrade(Refusal.Story story, int rank) {
        Refusal.check(checks, "tradePrice " + rank, story, NONE, x -> x.tradePrice(rank));
        Refusal.check(checks, "tradeAmount " + rank, story, NONE, x -> x.tradeAmount(rank));
        Refusal.check(checks, "tradeBuyer " + rank, story, NONE, x -> x.tradeBuyer(rank));
        Refusal.check(checks, "tradeSeller " + rank, story, NONE, x -> x.tradeSeller(rank));
    }

    /** "Throws ArithmeticException if there was no trade". */
    private static void promises32And33() {
        Refusal.check(checks, "meanPrice without trades", EdgesOfCallsTest::threeLevels, ArithmeticException.class,
                x -> x.meanPrice());
        Refusal.Story cancelledByRule = x -> {
            x.send(0, 's', 20, 1, 1);
            x.send(0, 'b', 20, 1, 1);
        };
        Refusal.check(checks, "meanPrice after a cancelled order", cancelledByRule, ArithmeticException.class,
                x -> x.meanPrice());
        for (int price : new int[] {1, 99, 100, 198, 200, 300}) {
            MatchFloor x = new MatchFloor();
            x.send(0, 's', price, 1, 1);
            x.send(1, 'b', price, 1, 1);
            checks.same("the least volume", x.volume(), 1);
            checks.same("its mean price", x.meanPrice(), (double) price);
            x.send(0, 's', 1, 99, 1);
            x.send(1, 'b', 1, 99, 1);
            checks.same("100 traded", x.volume(), 100);
            checks.same("their mean price", x.meanPrice(), (price + 99) / 100.0);
        }
        MatchFloor y = new MatchFloor();
        y.send(0, 's', 1, 1, 1);
        y.send(1, 'b', 1, 1, 1);
        y.send(0, 's', 2, 2, 2);
        y.send(1, 'b', 2, 2, 2);
        checks.same("five thirds", y.meanPrice(), 5.0 / 3.0);
    }

    /** "the number of owners that have an active order", from none to all six. */
    private static void promise34() {
        for (int set = 0; set < 64; set++) {
            MatchFloor x = new MatchFloor();
            int due = 0;
            for (int owner = 0; owner <= 5; owner++) {
                if ((set >> owner & 1) == 1) {
                    due++;
                    x.send(owner, owner % 2 == 0 ? 'b' : 's', owner % 2 == 0 ? 20 : 21, 1, 1);
                } else {
                    x.sendStop(owner, 'b', 300, 20, 1);
                }
            }
            checks.same("owners " + Integer.toBinaryString(set), x.owners(), due);
        }
        MatchFloor y = new MatchFloor();
        fourStates(y);
        checks.same("only the active one counts", y.owners(), 1);
        y.cancel(2);
        checks.same("no active order", y.owners(), 0);
    }

    /** A floor keeps consistent at each edge that the calls can reach. */
    private static void promise35() {
        MatchFloor x = new MatchFloor();
        x.send(0, 'b', 99, 1, 99);
        checks.holds("one side", x.isConsistent());
        x.send(1, 's', 100, 99, 1);
        checks.holds("prices beside each other", x.isConsistent());
        x.halt();
        x.send(0, 'b', 100, 1, 1);
        checks.holds("equal prices on a halted floor", x.spread() == 0 && x.isConsistent());
        x.send(0, 'b', 300, 99, 98);
        checks.holds("crossed on a halted floor", x.spread() == -200 && x.isConsistent());
        x.auction();
        checks.holds("one side is used up", x.levels('s') == 0 && x.isConsistent());
        MatchFloor y = new MatchFloor();
        for (int i = 0; i < 60; i++) {
            y.send(i % 6, i % 2 == 0 ? 'b' : 's', i % 2 == 0 ? 20 : 21, 99, 1 + i);
        }
        checks.holds("a full floor", y.isConsistent());
        y.halt();
        checks.holds("a full halted floor", y.isConsistent());
    }
}

/** Promises 16 to 23: the book, level by level. */
public final class BookTest {
    private static final Checks checks = new Checks("BookTest");
    private static final char[] NO_SIDES = {'x', 'B', 'S', 'a', 0, (char) 65535};
    private static final int[] NO_LEVELS = {-1, 3, 4, 60, Integer.MIN_VALUE, Integer.MAX_VALUE};

    private BookTest() {
    }

    public static void main(String[] args) {
        promise16Levels();
        promise17LevelPrice();
        promise18ShownAt();
        promise19LeftAt();
        promise20OrdersAt();
        promise21OrderAt();
        promise22Spread();
        promise23Waiting();
        bookAsOrdersLeave();
        checks.end();
    }

    /** Three levels a side: to buy 22, 21 and 19, to sell 24, 30 and 100. */
    private static MatchFloor book() {
        MatchFloor x = new MatchFloor();
        x.send(0, 'b', 21, 9, 2);
        x.send(1, 'b', 19, 5, 5);
        x.send(0, 'b', 22, 4, 1);
        x.send(2, 'b', 21, 6, 3);
        x.send(0, 's', 30, 9, 4);
        x.send(1, 's', 24, 5, 5);
        x.send(3, 's', 30, 6, 6);
        x.send(4, 's', 100, 8, 7);
        x.send(5, 's', 30, 1, 9);
        x.sendStop(5, 's', 1, 20, 9);
        return x;
    }

    private static void promise16Levels() {
        MatchFloor x = new MatchFloor();
        checks.same("none to buy", x.levels('b'), 0);
        checks.same("none to sell", x.levels('s'), 0);
        MatchFloor y = book();
        checks.same("to buy", y.levels('b'), 3);
        checks.same("to sell", y.levels('s'), 3);
        y.send(2, 'b', 20, 1, 1);
        checks.same("one more", y.levels('b'), 4);
        for (char side : NO_SIDES) {
            checks.illegalArgument("levels " + (int) side, () -> y.levels(side));
        }
    }

    private static void promise17LevelPrice() {
        MatchFloor x = book();
        int[] buying = {22, 21, 19};
        int[] selling = {24, 30, 100};
        for (int level = 0; level < 3; level++) {
            checks.same("to buy " + level, x.levelPrice('b', level), buying[level]);
            checks.same("to sell " + level, x.levelPrice('s', level), selling[level]);
        }
        for (int level : NO_LEVELS) {
            checks.noSuch("b " + level, () -> x.levelPrice('b', level));
            checks.noSuch("s " + level, () -> x.levelPrice('s', level));
            checks.illegalArgument("x " + level + ": the side comes first", () -> x.levelPrice('x', level));
        }
        for (char side : NO_SIDES) {
            checks.illegalArgument("side " + (int) side, () -> x.levelPrice(side, 0));
        }
        checks.noSuch("an empty side", () -> new MatchFloor().levelPrice('b', 0));
    }

    private static void promise18ShownAt() {
        MatchFloor x = book();
        int[] buying = {1, 5, 5};
        int[] selling = {5, 11, 7};
        for (int level = 0; level < 3; level++) {
            checks.same("to buy " + level, x.shownAt('b', level), buying[level]);
            checks.same("to sell " + level, x.shownAt('s', level), selling[level]);
        }
        for (int level : NO_LEVELS) {
            checks.noSuch("b " + level, () -> x.shownAt('b', level));
            checks.noSuch("s " + level, () -> x.shownAt('s', level));
            checks.illegalArgument("x " + level + ": the side comes first", () -> x.shownAt('x', level));
        }
        for (char side : NO_SIDES) {
            checks.illegalArgument("side " + (int) side, () -> x.shownAt(side, 0));
        }
        checks.noSuch("an empty side", () -> new MatchFloor().shownAt('s', 0));
    }

    private static void promise19LeftAt() {
        MatchFloor x = book();
        int[] buying = {4, 15, 5};
        int[] selling = {5, 16, 8};
        for (int level = 0; level < 3; level++) {
            checks.same("to buy " + level, x.leftAt('b', level), buying[level]);
            checks.same("to sell " + level, x.leftAt('s', level), selling[level]);
        }
        for (int level : NO_LEVELS) {
            checks.noSuch("b " + level, () -> x.leftAt('b', level));
            checks.noSuch("s " + level, () -> x.leftAt('s', level));
            checks.illegalArgument("x " + level + ": the side comes first", () -> x.leftAt('x', level));
        }
        for (char side : NO_SIDES) {
            checks.illegalArgument("side " + (int) side, () -> x.leftAt(side, 0));
        }
        checks.noSuch("an empty side", () -> new MatchFloor().leftAt('b', 0));
    }

    private static void promise20OrdersAt() {
        MatchFloor x = book();
        int[] buying = {1, 2, 1};
        int[] selling = {1, 3, 1};
        for (int level = 0; level < 3; level++) {
            checks.same("to buy " + level, x.ordersAt('b', level), buying[level]);
            checks.same("to sell " + level, x.ordersAt('s', level), selling[level]);
        }
        for (int level : NO_LEVELS) {
            checks.noSuch("b " + level, () -> x.ordersAt('b', level));
            checks.noSuch("s " + level, () -> x.ordersAt('s', level));
            checks.illegalArgument("x " + level + ": the side comes first", () -> x.ordersAt('x', level));
        }
        for (char side : NO_SIDES) {
            checks.illegalArgument("side " + (int) side, () -> x.ordersAt(side, 0));
        }
        checks.noSuch("an empty side", () -> new MatchFloor().ordersAt('s', 0));
    }

    private static void promise21OrderAt() {
        MatchFloor x = book();
        int[][] buying = {{2}, {0, 3}, {1}};
        int[][] selling = {{5}, {4, 6, 8}, {7}};
        for (int level = 0; level < 3; level++) {
            for (int place = 0; place < buying[level].length; place++) {
                checks.same("b " + level + " " + place, x.orderAt('b', level, place), buying[level][place]);
            }
            for (int place = 0; place < selling[level].length; place++) {
                checks.same("s " + level + " " + place, x.orderAt('s', level, place), selling[level][place]);
            }
        }
        for (int place : new int[] {-1, 3, 4, Integer.MIN_VALUE, Integer.MAX_VALUE}) {
            noPlace(x, 's', 1, place);
            noPlace(x, 'b', 0, place);
            checks.noSuch("place " + place + " of no level", () -> x.orderAt('b', 3, place));
            checks.illegalArgument("place " + place + " of no side", () -> x.orderAt('x', 0, place));
        }
        noPlace(x, 'b', 0, 1);
        noPlace(x, 'b', 1, 2);
        noPlace(x, 'b', 2, 1);
        for (int level : NO_LEVELS) {
            checks.noSuch("b " + level, () -> x.orderAt('b', level, 0));
            checks.noSuch("s " + level, () -> x.orderAt('s', level, 0));
            checks.illegalArgument("x " + level + ": the side comes first", () -> x.orderAt('x', level, 0));
        }
        for (char side : NO_SIDES) {
            checks.illegalArgument("side " + (int) side, () -> x.orderAt(side, 0, 0));
        }
        checks.noSuch("an empty side", () -> new MatchFloor().orderAt('s', 0, 0));
    }

    private static void noPlace(MatchFloor x, char side, int level, int place) {
        checks.throwing(side + " " + level + " place " + place, IndexOutOfBoundsException.class,
                () -> x.orderAt(side, level, place));
    }

    private static void promise22Spread() {
        MatchFloor x = new MatchFloor();
        checks.noSuch("both sides are empty", () -> x.spread());
        x.send(0, 'b', 20, 5, 5);
        checks.noSuch("none to sell", () -> x.spread());
        x.send(0, 's', 300, 5, 5);
        checks.same("selling minus buying", x.spread(), 280);
        x.send(1, 's', 21, 5, 5);
        x.send(1, 'b', 19, 5, 5);
        checks.same("of the best prices", x.spread(), 1);
        x.halt();
        x.send(1, 'b', 25, 5, 5);
        checks.same("below 0 on a halted floor", x.spread(), -4);
        x.send(1, 's', 25, 5, 5);
        x.cancel(2);
        checks.same("0 on a halted floor", x.spread(), 0);
        MatchFloor y = new MatchFloor();
        y.send(0, 's', 20, 5, 5);
        y.sendStop(0, 'b', 20, 20, 5);
        checks.noSuch("none to buy but a stop", () -> y.spread());
    }

    private static void promise23Waiting() {
        MatchFloor x = new MatchFloor();
        checks.same("none", x.waiting(), 0);
        x.sendStop(0, 'b', 20, 40, 5);
        x.sendStop(0, 's', 20, 39, 5);
        x.sendStop(0, 'b', 30, 20, 5);
        checks.same("three", x.waiting(), 3);
        x.send(1, 'b', 20, 5, 5);
        checks.same("an active order does not wait", x.waiting(), 3);
        x.cancel(2);
        checks.same("a cancelled one does not", x.waiting(), 2);
        x.send(2, 's', 20, 1, 1);
        checks.same("those that have come in do not", x.waiting(), 0);
    }

    private static void bookAsOrdersLeave() {
        MatchFloor x = book();
        x.send(5, 's', 21, 5, 5);
        checks.same("the best level is met first", Look.side(x, 'b'), "\nb 21: 4 of 14 [0, 3]\nb 19: 5 of 5 [1]");
        x.cancel(1);
        checks.same("a level leaves with its last order", x.levels('b'), 1);
        x.cancel(5);
        x.cancel(7);
        checks.same("to sell", Look.side(x, 's'), "\ns 30: 11 of 16 [4, 6, 8]");
        checks.same("its best price", x.levelPrice('s', 0), 30);
    }
}

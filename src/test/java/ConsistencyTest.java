import java.lang.reflect.Field;

/**
 * Promise 35 where it answers false. No run of calls makes a floor inconsistent, so this test spoils private fields
 * of a floor: it has to be changed when these are.
 */
public final class ConsistencyTest {
    private static final Checks checks = new Checks("ConsistencyTest");

    private ConsistencyTest() {
    }

    public static void main(String[] args) throws ReflectiveOperationException {
        bestPrices();
        slices();
        slicesOfLaterOrders();
        waitingStops();
        auctionPricesDiffer();
        oneAuctionPriceIsMissing();
        checks.end();
    }

    /** "if it is open, the best price for buying is less than the best one for selling, if both sides have orders". */
    private static void bestPrices() throws ReflectiveOperationException {
        MatchFloor x = new MatchFloor();
        x.send(0, 'b', 20, 5, 5);
        x.send(1, 's', 30, 5, 5);
        int[] prices = {29, 30, 31};
        for (int price : prices) {
            set(first(x, "buyers"), "price", price);
            checks.same("open, to buy at " + price, x.isConsistent(), price < 30);
        }
        set(x, "halted", true);
        for (int price : prices) {
            set(first(x, "buyers"), "price", price);
            checks.holds("halted, to buy at " + price, x.isConsistent());
        }
        set(x, "halted", false);
        checks.fails("open again", x.isConsistent());
        x.cancel(1);
        checks.holds("one side without orders", x.isConsistent());
    }

    /** "each active order shows at least 1 and at most its slice". */
    private static void slices() throws ReflectiveOperationException {
        for (String side : new String[] {"buyers", "sellers"}) {
            MatchFloor x = twoOnEachSide();
            for (int shown : new int[] {1, 3, 4, 0, 5, -1, 99}) {
                set(first(x, side), "shown", shown);
                checks.same(side + ": " + shown + " of 4", x.isConsistent(), shown >= 1 && shown <= 4);
            }
            x.halt();
            checks.fails(side + ": halted", x.isConsistent());
        }
    }

    private static void slicesOfLaterOrders() throws ReflectiveOperationException {
        for (String side : new String[] {"buyers", "sellers"}) {
            MatchFloor x = twoOnEachSide();
            Object last = get(first(x, side), "next");
            for (int shown : new int[] {1, 7, 0, 8}) {
                set(last, "shown", shown);
                checks.same(side + ", the last one: " + shown + " of 7", x.isConsistent(), shown >= 1 && shown <= 7);
            }
        }
    }

    private static MatchFloor twoOnEachSide() {
        MatchFloor x = new MatchFloor();
        x.send(0, 'b', 20, 9, 4);
        x.send(1, 'b', 19, 9, 7);
        x.send(2, 's', 30, 9, 4);
        x.send(3, 's', 31, 9, 7);
        checks.holds("as sent", x.isConsistent());
        return x;
    }

    /** A stop that waits is not active, so it need not show anything. */
    private static void waitingStops() {
        MatchFloor x = new MatchFloor();
        x.sendStop(0, 'b', 20, 30, 5);
        x.sendStop(1, 's', 20, 10, 5);
        checks.holds("stops alone", x.isConsistent());
    }

    /** "auctionPrice and auctionPriceByTrying agree": they don't if an order has a price that is none. */
    private static void auctionPricesDiffer() throws ReflectiveOperationException {
        MatchFloor x = crossed();
        set(first(x, "sellers"), "price", 101);
        checks.same("by sums", x.auctionPrice(), 101);
        checks.same("by trying", x.auctionPriceByTrying(), 102);
        checks.fails("they differ", x.isConsistent());
    }

    /** "or there is none for both": not if there is none for one. */
    private static void oneAuctionPriceIsMissing() throws ReflectiveOperationException {
        MatchFloor x = crossed();
        set(first(x, "sellers"), "price", 101);
        set(first(x, "buyers"), "price", 101);
        checks.same("by sums", x.auctionPrice(), 101);
        checks.noSuch("by trying", () -> x.auctionPriceByTrying());
        checks.fails("one is missing", x.isConsistent());
        set(first(x, "sellers"), "price", 102);
        checks.noSuch("by sums", () -> x.auctionPrice());
        checks.noSuch("by trying", () -> x.auctionPriceByTrying());
        checks.holds("both are missing", x.isConsistent());
    }

    private static MatchFloor crossed() {
        MatchFloor x = new MatchFloor();
        x.halt();
        x.send(0, 's', 100, 5, 5);
        x.send(1, 'b', 102, 5, 5);
        checks.same("by sums", x.auctionPrice(), 100);
        checks.same("by trying", x.auctionPriceByTrying(), 100);
        checks.holds("crossed and halted", x.isConsistent());
        return x;
    }

    private static Object first(MatchFloor floor, String side) throws ReflectiveOperationException {
        return get(get(floor, side), "first");
    }

    private static Object get(Object of, String name) throws ReflectiveOperationException {
        return field(of, name).get(of);
    }

    private static void set(Object of, String name, Object value) throws ReflectiveOperationException {
        field(of, name).set(of, value);
    }

    private static Field field(Object of, String name) throws ReflectiveOperationException {
        Field field = of.getClass().getDeclaredField(name);
        field.setAccessible(true);
        return field;
    }
}

import java.lang.reflect.InvocationTargetException;
import java.lang.reflect.Method;
import java.util.Arrays;

/** Long runs of calls, the same ones each time, on a MatchFloor and on a ReferenceFloor. */
public final class RandomRunsTest {
    private static final Checks checks = new Checks("RandomRunsTest");
    private static final int RUNS = 500;
    private static final int CALLS = 512;
    private static final String[] CHANGES = {"sendStop", "sendStop", "cancel", "reduce", "reduce", "setBand", "setRule",
        "halt", "auction", "auction"};
    private static final String[] QUESTIONS = {"isHalted", "stateOf", "leftOf", "shownOf", "filledShare", "orderCount",
        "levels", "levelPrice", "shownAt", "leftAt", "ordersAt", "orderAt", "spread", "waiting", "auctionPrice",
        "auctionPriceByTrying", "volumeAt", "tradeCount", "tradePrice", "tradeAmount", "tradeBuyer", "tradeSeller",
        "volume", "meanPrice", "owners", "isConsistent"};

    private long seed;
    private final int lowest;
    private final int width;
    private final int questionShare;
    private final int wrongShare;
    private int orders;

    private RandomRunsTest(int run) {
        seed = run * 7919L + 17;
        int[] lows = {1, 18, 90, 96, 188, 196, 280};
        lowest = lows[below(lows.length)];
        width = new int[] {6, 12, 30, 110}[below(4)];
        questionShare = new int[] {20, 50, 70}[below(3)];
        wrongShare = new int[] {0, 2, 10}[below(3)];
    }

    public static void main(String[] args) throws ReflectiveOperationException {
        for (int run = 0; run < RUNS; run++) {
            new RandomRunsTest(run).run(run);
        }
        checks.end();
    }

    private int below(int bound) {
        seed = seed * 6364136223846793005L + 1442695040888963407L;
        return (int) ((seed >>> 33) % bound);
    }

    private void run(int run) throws ReflectiveOperationException {
        MatchFloor floor = new MatchFloor();
        ReferenceFloor reference = new ReferenceFloor();
        StringBuilder story = new StringBuilder();
        for (int call = 0; call < CALLS; call++) {
            String name = nextName(call);
            Object[] args = argsFor(name);
            String due = answer(reference, name, args);
            String got = answer(floor, name, args);
            orders = reference.orderCount();
            story.append('\n').append(name).append(Arrays.toString(args)).append(" => ").append(due);
            if (!got.equals(due)) {
                System.out.println(story);
                checks.same("run " + run + ", call " + call + ", " + name + Arrays.toString(args), got, due);
                return;
            }
        }
        checks.holds("run " + run, true);
    }

    private String nextName(int call) {
        if (below(100) < questionShare && call > 5) {
            return QUESTIONS[below(QUESTIONS.length)];
        }
        return below(10) < 6 ? "send" : CHANGES[below(CHANGES.length)];
    }

    private static String answer(Object floor, String name, Object[] args) throws ReflectiveOperationException {
        for (Method method : floor.getClass().getMethods()) {
            if (method.getName().equals(name)) {
                try {
                    return String.valueOf(method.invoke(floor, args));
                } catch (InvocationTargetException e) {
                    return "throws " + e.getCause().getClass().getName();
                }
            }
        }
        throw new NoSuchMethodException(name);
    }

    private Object[] argsFor(String name) {
        switch (name) {
            case "send":
                return new Object[] {owner(), side(), price(), amount(), below(2) == 0 ? amount() : 1 + below(9)};
            case "sendStop":
                return new Object[] {owner(), side(), price(), price(), amount()};
            case "cancel": case "stateOf": case "leftOf": case "shownOf": case "filledShare":
                return new Object[] {order()};
            case "reduce":
                return new Object[] {order(), below(8) == 0 ? below(102) - 1 : 1 + below(12)};
            case "setBand":
                return new Object[] {wrong() ? below(2) * 52 - 1 : below(3) == 0 ? 0 : below(51)};
            case "setRule":
                return new Object[] {wrong() ? 'x' : below(2) == 0 ? 'r' : 'i'};
            case "levels":
                return new Object[] {side()};
            case "levelPrice": case "shownAt": case "leftAt": case "ordersAt":
                return new Object[] {side(), level()};
            case "orderAt":
                return new Object[] {side(), level(), below(4) - (wrong() ? 1 : 0)};
            case "volumeAt":
                return new Object[] {price()};
            case "tradePrice": case "tradeAmount": case "tradeBuyer": case "tradeSeller":
                return new Object[] {below(3) == 0 ? below(53) - 1 : below(4)};
            default:
                return new Object[] {};
        }
    }

    private boolean wrong() {
        return below(100) < wrongShare;
    }

    private int owner() {
        return wrong() ? below(2) * 7 - 1 : below(6);
    }

    private char side() {
        return wrong() ? (char) ('a' + below(26)) : below(2) == 0 ? 'b' : 's';
    }

    private int price() {
        if (wrong()) {
            return below(400) - 20;
        }
        int price = Math.min(300, lowest + below(width));
        return price < 100 ? price : price < 200 ? price - price % 2 : price - price % 5;
    }

    private int amount() {
        return wrong() ? below(2) * 100 : below(4) == 0 ? 1 + below(99) : 1 + below(12);
    }

    private int order() {
        return wrong() ? below(700) - 50 : below(orders + 1);
    }

    private int level() {
        return wrong() ? -1 : below(5);
    }
}

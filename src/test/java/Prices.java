import java.util.ArrayList;
import java.util.List;

/** All prices, written out step by step: 1 to 99, the even ones to 198, and the multiples of 5 from 200 to 300. */
final class Prices {
    static final List<Integer> ALL = all();

    /** Numbers that are no prices: the ends of int, and some that would be prices if their upper bits fell away. */
    static final int[] FAR_OFF = {Integer.MIN_VALUE, Integer.MIN_VALUE + 20, -300, -100, -20, 1000, 65536 + 20,
        (1 << 24) + 20, Integer.MAX_VALUE - 1, Integer.MAX_VALUE};

    private Prices() {
    }

    private static List<Integer> all() {
        List<Integer> prices = new ArrayList<>();
        for (int price = 1; price <= 99; price += 1) {
            prices.add(price);
        }
        for (int price = 100; price <= 198; price += 2) {
            prices.add(price);
        }
        for (int price = 200; price <= 300; price += 5) {
            prices.add(price);
        }
        return prices;
    }

    static boolean has(int number) {
        return ALL.contains(number);
    }
}

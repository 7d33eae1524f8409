import java.util.ArrayDeque;
import java.util.ArrayList;
import java.util.Collections;
import java.util.Deque;
import java.util.HashSet;
import java.util.Iterator;
import java.util.List;
import java.util.NoSuchElementException;
import java.util.Set;
import java.util.TreeMap;

/** The document a second time, written with the Java library, to compare MatchFloor with. */
public final class ReferenceFloor {
    private static final class Entry {
        int number;
        int owner;
        char side;
        int trigger;
        int price;
        int amount;
        int slice;
        int left;
        int shown;
        int traded;
        char state;
    }

    private static final class Trade {
        int price;
        int amount;
        int buyer;
        int seller;
    }

    private final List<Entry> entries = new ArrayList<>();
    private final TreeMap<Integer, Deque<Entry>> buying = new TreeMap<>(Collections.reverseOrder());
    private final TreeMap<Integer, Deque<Entry>> selling = new TreeMap<>();
    private final List<Trade> trades = new ArrayList<>();
    private int band;
    private char rule = 'r';
    private boolean halted;

    private static List<Integer> allPrices() {
        List<Integer> prices = new ArrayList<>();
        for (int p = 1; p < 100; p++) {
            prices.add(p);
        }
        for (int p = 100; p < 200; p += 2) {
            prices.add(p);
        }
        for (int p = 200; p <= 300; p += 5) {
            prices.add(p);
        }
        return prices;
    }

    private static final List<Integer> PRICES = allPrices();

    private TreeMap<Integer, Deque<Entry>> levelsOf(char side) {
        if (side == 'b') {
            return buying;
        }
        if (side == 's') {
            return selling;
        }
        throw new IllegalArgumentException();
    }

    private void test(int owner, char side, int price, int amount) {
        boolean right = 0 <= owner && owner < 6 && (side == 'b' || side == 's');
        if (!right || !PRICES.contains(price) || amount <= 0 || amount >= 100) {
            throw new IllegalArgumentException();
        }
    }

    private Entry enter(int owner, char side, int price, int amount) {
        int live = 0;
        for (Entry e : entries) {
            live += e.state == 'a' || e.state == 'w' ? 1 : 0;
        }
        if (live >= 60) {
            throw new IllegalStateException();
        }
        Entry e = new Entry();
        e.number = entries.size();
        e.owner = owner;
        e.side = side;
        e.price = price;
        e.amount = amount;
        e.left = amount;
        e.state = 'w';
        entries.add(e);
        return e;
    }

    public int send(int owner, char side, int price, int amount, int slice) {
        test(owner, side, price, amount);
        test(owner, side, price, slice);
        Entry e = enter(owner, side, price, amount);
        e.slice = slice;
        comeIn(e);
        setOff();
        return e.number;
    }

    public int sendStop(int owner, char side, int trigger, int price, int amount) {
        test(owner, side, price, amount);
        test(owner, side, trigger, amount);
        Entry e = enter(owner, side, price, amount);
        e.trigger = trigger;
        return e.number;
    }

    private void comeIn(Entry e) {
        e.state = 'a';
        while (!halted && e.state == 'a' && meetOne(e)) {
            continue;
        }
        if (e.state == 'a') {
            e.shown = Math.min(e.slice, e.left);
            levelsOf(e.side).computeIfAbsent(e.price, p -> new ArrayDeque<>()).addLast(e);
        }
    }

    /** Returns whether there may be another one to meet. */
    private boolean meetOne(Entry e) {
        TreeMap<Integer, Deque<Entry>> others = e.side == 'b' ? selling : buying;
        if (others.isEmpty()) {
            return false;
        }
        int price = others.firstKey();
        if (e.side == 'b' && price > e.price || e.side == 's' && price < e.price) {
            return false;
        }
        Entry other = others.firstEntry().getValue().peekFirst();
        if (other.owner == e.owner) {
            Entry gone = rule == 'r' ? other : e;
            gone.state = 'c';
            removeDead(others);
            return true;
        }
        if (band != 0 && !trades.isEmpty()) {
            int last = trades.get(trades.size() - 1).price;
            if (Math.abs(last - price) * 100 > last * band) {
                halted = true;
                return false;
            }
        }
        int amount = Math.min(e.left, other.shown);
        trade(e, other, price, amount);
        other.shown -= amount;
        if (other.left > 0 && other.shown == 0) {
            other.shown = Math.min(other.left, other.slice);
            Deque<Entry> level = others.firstEntry().getValue();
            level.addLast(level.removeFirst());
        }
        removeDead(others);
        return true;
    }

    private void trade(Entry one, Entry other, int price, int amount) {
        Trade t = new Trade();
        t.price = price;
        t.amount = amount;
        t.buyer = one.side == 'b' ? one.number : other.number;
        t.seller = one.side == 's' ? one.number : other.number;
        trades.add(t);
        for (Entry e : List.of(one, other)) {
            e.left -= amount;
            e.traded += amount;
            if (e.left == 0) {
                e.state = 'f';
            }
        }
    }

    private void removeDead(TreeMap<Integer, Deque<Entry>> levels) {
        Iterator<Deque<Entry>> iterator = levels.values().iterator();
        while (iterator.hasNext()) {
            Deque<Entry> level = iterator.next();
            level.removeIf(e -> e.state != 'a');
            if (level.isEmpty()) {
                iterator.remove();
            }
        }
    }

    private void setOff() {
        boolean again = true;
        while (again && !halted && !trades.isEmpty()) {
            again = false;
            int last = trades.get(trades.size() - 1).price;
            for (Entry e : entries) {
                boolean ready = e.side == 'b' ? last >= e.trigger : last <= e.trigger;
                if (e.state == 'w' && ready) {
                    e.slice = e.left;
                    comeIn(e);
                    again = true;
                    break;
                }
            }
        }
    }

    private Entry entry(int order) {
        if (order < 0 || order >= entries.size()) {
            throw new NoSuchElementException();
        }
        return entries.get(order);
    }

    public int cancel(int order) {
        Entry e = entry(order);
        if (e.state == 'f' || e.state == 'c') {
            throw new IllegalStateException();
        }
        e.state = 'c';
        removeDead(levelsOf(e.side));
        return e.left;
    }

    public int reduce(int order, int left) {
        Entry e = entry(order);
        if (left <= 0) {
            throw new IllegalArgumentException();
        }
        if (e.state == 'f' || e.state == 'c' || left >= e.left) {
            throw new IllegalStateException();
        }
        int before = e.left;
        e.left = left;
        if (e.shown > left) {
            e.shown = left;
        }
        return before;
    }

    public int setBand(int percent) {
        if (percent < 0 || percent > 50) {
            throw new IllegalArgumentException();
        }
        int before = band;
        band = percent;
        return before;
    }

    public char setRule(char newRule) {
        if (newRule != 'r' && newRule != 'i') {
            throw new IllegalArgumentException();
        }
        char before = rule;
        rule = newRule;
        return before;
    }

    public int halt() {
        if (halted) {
            throw new IllegalStateException();
        }
        halted = true;
        return active('b').size() + active('s').size();
    }

    private List<Entry> active(char side) {
        List<Entry> active = new ArrayList<>();
        for (Deque<Entry> level : levelsOf(side).values()) {
            active.addAll(level);
        }
        return active;
    }

    public int auction() {
        if (!halted) {
            throw new IllegalStateException();
        }
        int price = findPrice();
        int volume = price == 0 ? 0 : volumeAt(price);
        for (int rest = volume; rest > 0;) {
            Entry buyer = buying.firstEntry().getValue().peekFirst();
            Entry seller = selling.firstEntry().getValue().peekFirst();
            int part = Math.min(rest, Math.min(buyer.left, seller.left));
            trade(buyer, seller, price, part);
            removeDead(buying);
            removeDead(selling);
            rest -= part;
        }
        for (Entry e : entries) {
            if (e.state == 'a') {
                e.shown = Math.min(e.slice, e.left);
            }
        }
        halted = false;
        setOff();
        return volume;
    }

    private int findPrice() {
        int best = 0;
        int bestVolume = 0;
        int bestGap = 0;
        for (int price : PRICES) {
            int demand = demand(price);
            int supply = supply(price);
            int volume = Math.min(demand, supply);
            int gap = Math.abs(demand - supply);
            if (volume > bestVolume || volume == bestVolume && volume > 0 && gap < bestGap) {
                best = price;
                bestVolume = volume;
                bestGap = gap;
            }
        }
        return best;
    }

    private int demand(int price) {
        return active('b').stream().filter(e -> e.price >= price).mapToInt(e -> e.left).sum();
    }

    private int supply(int price) {
        return active('s').stream().filter(e -> e.price <= price).mapToInt(e -> e.left).sum();
    }

    public boolean isHalted() {
        return halted;
    }

    public char stateOf(int order) {
        return entry(order).state;
    }

    public int leftOf(int order) {
        return entry(order).left;
    }

    public int shownOf(int order) {
        Entry e = entry(order);
        if (e.state != 'a') {
            throw new IllegalStateException();
        }
        return e.shown;
    }

    public float filledShare(int order) {
        return (float) entry(order).traded / (float) entry(order).amount;
    }

    public int orderCount() {
        return entries.size();
    }

    public int levels(char side) {
        return levelsOf(side).size();
    }

    private List<Entry> level(char side, int level) {
        List<Deque<Entry>> all = new ArrayList<>(levelsOf(side).values());
        if (level < 0 || level >= all.size()) {
            throw new NoSuchElementException();
        }
        return new ArrayList<>(all.get(level));
    }

    public int levelPrice(char side, int level) {
        return level(side, level).get(0).price;
    }

    public int shownAt(char side, int level) {
        return level(side, level).stream().mapToInt(e -> e.shown).sum();
    }

    public int leftAt(char side, int level) {
        return level(side, level).stream().mapToInt(e -> e.left).sum();
    }

    public int ordersAt(char side, int level) {
        return level(side, level).size();
    }

    public int orderAt(char side, int level, int place) {
        List<Entry> all = level(side, level);
        if (place < 0 || place >= all.size()) {
            throw new IndexOutOfBoundsException();
        }
        return all.get(place).number;
    }

    public int spread() {
        if (buying.isEmpty() || selling.isEmpty()) {
            throw new NoSuchElementException();
        }
        return selling.firstKey() - buying.firstKey();
    }

    public int waiting() {
        return (int) entries.stream().filter(e -> e.state == 'w').count();
    }

    public int auctionPrice() {
        int price = findPrice();
        if (price == 0) {
            throw new NoSuchElementException();
        }
        return price;
    }

    public int auctionPriceByTrying() {
        return auctionPrice();
    }

    public int volumeAt(int price) {
        if (!PRICES.contains(price)) {
            throw new IllegalArgumentException();
        }
        return Math.min(demand(price), supply(price));
    }

    public int tradeCount() {
        return trades.size();
    }

    private Trade kept(int rank) {
        if (rank < 0 || rank >= 50 || rank >= trades.size()) {
            throw new NoSuchElementException();
        }
        return trades.get(trades.size() - 1 - rank);
    }

    public int tradePrice(int rank) {
        return kept(rank).price;
    }

    public int tradeAmount(int rank) {
        return kept(rank).amount;
    }

    public int tradeBuyer(int rank) {
        return kept(rank).buyer;
    }

    public int tradeSeller(int rank) {
        return kept(rank).seller;
    }

    public long volume() {
        return trades.stream().mapToLong(t -> t.amount).sum();
    }

    public double meanPrice() {
        if (trades.isEmpty()) {
            throw new ArithmeticException();
        }
        return (double) trades.stream().mapToLong(t -> (long) t.amount * t.price).sum() / (double) volume();
    }

    public int owners() {
        Set<Integer> owners = new HashSet<>();
        for (Entry e : entries) {
            if (e.state == 'a') {
                owners.add(e.owner);
            }
        }
        return owners.size();
    }

    public boolean isConsistent() {
        boolean uncrossed = halted || buying.isEmpty() || selling.isEmpty() || spread() > 0;
        return uncrossed && entries.stream().allMatch(e -> e.state != 'a' || e.shown >= 1 && e.shown <= e.slice);
    }
}

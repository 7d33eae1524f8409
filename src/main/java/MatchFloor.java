import java.util.NoSuchElementException;

public final class MatchFloor {
    // An object is used for at most 512 calls, so no more orders than these can come.
    private static final int MOST_ORDERS = 512;
    private static final int MOST_LIVE = 60;
    private static final int MOST_AMOUNT = 99;
    private static final int LAST_OWNER = 5;
    private static final int LAST_PRICE = 300;
    private static final int EVEN_FROM = 100;
    private static final int FIVES_FROM = 200;
    private static final int MOST_BAND = 50;
    private static final int KEPT_TRADES = 50;
    // Each meeting trades at least 1 or cancels one order, so there are never more of them.
    private static final int MOST_MEETINGS = MOST_AMOUNT + MOST_LIVE;
    private static final int NO_PRICE = 0;

    private static final char BUY = 'b';
    private static final char SELL = 's';
    private static final char ACTIVE = 'a';
    private static final char WAITING = 'w';
    private static final char FILLED = 'f';
    private static final char CANCELLED = 'c';
    private static final char CANCEL_RESTING = 'r';
    private static final char CANCEL_INCOMING = 'i';

    private final Order[] orders;
    private final BookSide buyers;
    private final BookSide sellers;
    private final Tape tape;
    private final BestPrice best;
    private int came;
    private int band;
    private char rule;
    private boolean halted;

    public MatchFloor() {
        orders = new Order[MOST_ORDERS];
        buyers = new BookSide(true);
        sellers = new BookSide(false);
        tape = new Tape();
        best = new BestPrice();
        came = 0;
        band = 0;
        rule = CANCEL_RESTING;
        halted = false;
    }

    // ---- Orders ----

    public int send(int owner, char side, int price, int amount, int slice)
            throws IllegalArgumentException, IllegalStateException {
        if (!isOwner(owner) || !isSide(side) || !isPrice(price) || !isAmount(amount) || !isAmount(slice)) {
            throw new IllegalArgumentException();
        }
        if (isFull()) {
            throw new IllegalStateException();
        }
        Order order = new Order(came, owner, side == BUY, NO_PRICE, price, amount, slice);
        keep(order);
        comeIn(order);
        setOffStops();
        return order.number;
    }

    public int sendStop(int owner, char side, int trigger, int price, int amount)
            throws IllegalArgumentException, IllegalStateException {
        if (!isOwner(owner) || !isSide(side) || !isPrice(trigger) || !isPrice(price) || !isAmount(amount)) {
            throw new IllegalArgumentException();
        }
        if (isFull()) {
            throw new IllegalStateException();
        }
        Order stop = new Order(came, owner, side == BUY, trigger, price, amount, amount);
        keep(stop);
        return stop.number;
    }

    public int cancel(int order) throws NoSuchElementException, IllegalStateException {
        Order found = knownOrder(order);
        if (!found.isLive()) {
            throw new IllegalStateException();
        }
        if (found.state == ACTIVE) {
            sideOf(found).takeOut(found);
        }
        found.state = CANCELLED;
        return found.left;
    }

    public int reduce(int order, int left)
            throws NoSuchElementException, IllegalArgumentException, IllegalStateException {
        Order found = knownOrder(order);
        if (left < 1) {
            throw new IllegalArgumentException();
        }
        if (!found.isLive() || left >= found.left) {
            throw new IllegalStateException();
        }
        int before = found.left;
        found.left = left;
        found.shown = Math.min(found.shown, left);
        return before;
    }

    public int setBand(int percent) throws IllegalArgumentException {
        if (percent < 0 || percent > MOST_BAND) {
            throw new IllegalArgumentException();
        }
        int before = band;
        band = percent;
        return before;
    }

    public char setRule(char rule) throws IllegalArgumentException {
        if (rule != CANCEL_RESTING && rule != CANCEL_INCOMING) {
            throw new IllegalArgumentException();
        }
        char before = this.rule;
        this.rule = rule;
        return before;
    }

    public int halt() throws IllegalStateException {
        if (halted) {
            throw new IllegalStateException();
        }
        halted = true;
        return countIn(ACTIVE);
    }

    public int auction() throws IllegalStateException {
        if (!halted) {
            throw new IllegalStateException();
        }
        int price = priceBySums();
        int amount = price == NO_PRICE ? 0 : volumeFor(price);
        tradeFirstOrders(price, amount);
        buyers.showSlices();
        sellers.showSlices();
        halted = false;
        setOffStops();
        return amount;
    }

    public boolean isHalted() {
        return halted;
    }

    public char stateOf(int order) throws NoSuchElementException {
        return knownOrder(order).state;
    }

    public int leftOf(int order) throws NoSuchElementException {
        return knownOrder(order).left;
    }

    public int shownOf(int order) throws NoSuchElementException, IllegalStateException {
        Order found = knownOrder(order);
        if (found.state != ACTIVE) {
            throw new IllegalStateException();
        }
        return found.shown;
    }

    public float filledShare(int order) throws NoSuchElementException {
        Order found = knownOrder(order);
        return (float) found.traded / (float) found.firstAmount;
    }

    public int orderCount() {
        return came;
    }

    // ---- The book ----

    public int levels(char side) throws IllegalArgumentException {
        return knownSide(side).countLevels();
    }

    public int levelPrice(char side, int level) throws IllegalArgumentException, NoSuchElementException {
        return knownHead(side, level).price;
    }

    public int shownAt(char side, int level) throws IllegalArgumentException, NoSuchElementException {
        Order head = knownHead(side, level);
        int sum = 0;
        for (Order order = head; order != null && order.price == head.price; order = order.next) {
            sum += order.shown;
        }
        return sum;
    }

    public int leftAt(char side, int level) throws IllegalArgumentException, NoSuchElementException {
        Order head = knownHead(side, level);
        int sum = 0;
        for (Order order = head; order != null && order.price == head.price; order = order.next) {
            sum += order.left;
        }
        return sum;
    }

    public int ordersAt(char side, int level) throws IllegalArgumentException, NoSuchElementException {
        Order head = knownHead(side, level);
        int count = 0;
        for (Order order = head; order != null && order.price == head.price; order = order.next) {
            count++;
        }
        return count;
    }

    public int orderAt(char side, int level, int place)
            throws IllegalArgumentException, NoSuchElementException, IndexOutOfBoundsException {
        Order head = knownHead(side, level);
        int rank = 0;
        for (Order order = head; order != null && order.price == head.price; order = order.next) {
            if (rank == place) {
                return order.number;
            }
            rank++;
        }
        throw new IndexOutOfBoundsException();
    }

    public int spread() throws NoSuchElementException {
        Order buyer = buyers.first;
        Order seller = sellers.first;
        if (buyer == null || seller == null) {
            throw new NoSuchElementException();
        }
        return seller.price - buyer.price;
    }

    public int waiting() {
        return countIn(WAITING);
    }

    // ---- Auctions ----

    public int auctionPrice() throws NoSuchElementException {
        int price = priceBySums();
        if (price == NO_PRICE) {
            throw new NoSuchElementException();
        }
        return price;
    }

    public int auctionPriceByTrying() throws NoSuchElementException {
        int price = priceByTrying();
        if (price == NO_PRICE) {
            throw new NoSuchElementException();
        }
        return price;
    }

    public int volumeAt(int price) throws IllegalArgumentException {
        if (!isPrice(price)) {
            throw new IllegalArgumentException();
        }
        return volumeFor(price);
    }

    // ---- Trades ----

    public int tradeCount() {
        return tape.count;
    }

    public int tradePrice(int rank) throws NoSuchElementException {
        return tape.prices[knownTrade(rank)];
    }

    public int tradeAmount(int rank) throws NoSuchElementException {
        return tape.amounts[knownTrade(rank)];
    }

    public int tradeBuyer(int rank) throws NoSuchElementException {
        return tape.buyers[knownTrade(rank)];
    }

    public int tradeSeller(int rank) throws NoSuchElementException {
        return tape.sellers[knownTrade(rank)];
    }

    public long volume() {
        return tape.amountSum;
    }

    public double meanPrice() throws ArithmeticException {
        if (tape.amountSum == 0) {
            throw new ArithmeticException();
        }
        return (double) tape.moneySum / (double) tape.amountSum;
    }

    public int owners() {
        return Integer.bitCount(buyers.ownerBits() | sellers.ownerBits());
    }

    public boolean isConsistent() {
        return (halted || !isCrossed())
                && buyers.slicesHold()
                && sellers.slicesHold()
                && priceBySums() == priceByTrying();
    }

    // ---- Arguments ----

    private static boolean isOwner(int owner) {
        return owner >= 0 && owner <= LAST_OWNER;
    }

    private static boolean isSide(char side) {
        return side == BUY || side == SELL;
    }

    private static boolean isAmount(int amount) {
        return amount >= 1 && amount <= MOST_AMOUNT;
    }

    private static boolean isPrice(int price) {
        if (price < 1 || price > LAST_PRICE) {
            return false;
        }
        if (price < EVEN_FROM) {
            return true;
        }
        return price < FIVES_FROM ? price % 2 == 0 : price % 5 == 0;
    }

    // How far the next price stands from this one.
    private static int stepAt(int price) {
        if (price < EVEN_FROM) {
            return 1;
        }
        return price < FIVES_FROM ? 2 : 5;
    }

    private Order knownOrder(int number) {
        Order order = orderOf(number);
        if (order == null) {
            throw new NoSuchElementException();
        }
        return order;
    }

    private BookSide knownSide(char side) {
        if (!isSide(side)) {
            throw new IllegalArgumentException();
        }
        return side == BUY ? buyers : sellers;
    }

    private Order knownHead(char side, int level) {
        Order head = knownSide(side).headOf(level);
        if (head == null) {
            throw new NoSuchElementException();
        }
        return head;
    }

    private int knownTrade(int rank) {
        int place = tape.placeOf(rank);
        if (place < 0) {
            throw new NoSuchElementException();
        }
        return place;
    }

    // ---- All orders ----

    private Order orderOf(int number) {
        if (number < 0 || number >= came || number >= orders.length) {
            return null;
        }
        return orders[number];
    }

    private void keep(Order order) {
        if (came < orders.length) {
            orders[came] = order;
            came++;
        }
    }

    private boolean isFull() {
        return came >= orders.length || countIn(ACTIVE) + countIn(WAITING) >= MOST_LIVE;
    }

    private int countIn(char state) {
        int count = 0;
        for (int number = 0; number < came; number++) {
            Order order = orderOf(number);
            if (order != null && order.state == state) {
                count++;
            }
        }
        return count;
    }

    private BookSide sideOf(Order order) {
        return order.buys ? buyers : sellers;
    }

    // ---- Coming in ----

    private void comeIn(Order incoming) {
        incoming.state = ACTIVE;
        for (int meeting = 0; meeting < MOST_MEETINGS; meeting++) {
            Order resting = nextToMeet(incoming);
            if (resting == null) {
                break;
            }
            meet(incoming, resting);
        }
        if (incoming.state == ACTIVE) {
            incoming.showSlice();
            sideOf(incoming).putIn(incoming);
        }
    }

    // The order of the book that is met next, or null if there is none.
    private Order nextToMeet(Order incoming) {
        if (halted || incoming.state != ACTIVE) {
            return null;
        }
        BookSide otherSide = incoming.buys ? sellers : buyers;
        Order resting = otherSide.first;
        if (resting == null || !otherSide.isAtLeast(resting.price, incoming.price)) {
            return null;
        }
        return resting;
    }

    private void meet(Order incoming, Order resting) {
        if (incoming.owner == resting.owner) {
            cancelOneOf(incoming, resting);
        } else if (isWithinBand(resting.price)) {
            int amount = Math.min(incoming.left, resting.shown);
            Order buyer = incoming.buys ? incoming : resting;
            Order seller = incoming.buys ? resting : incoming;
            trade(buyer, seller, resting.price, amount);
            resting.shown -= amount;
            sideOf(resting).settle(resting);
        } else {
            halted = true;
        }
    }

    private void cancelOneOf(Order incoming, Order resting) {
        if (rule == CANCEL_INCOMING) {
            incoming.state = CANCELLED;
            return;
        }
        sideOf(resting).takeOut(resting);
        resting.state = CANCELLED;
    }

    private boolean isWithinBand(int price) {
        int latest = tape.latestPrice;
        if (band == 0 || latest == NO_PRICE) {
            return true;
        }
        return Math.abs(price - latest) * 100 <= band * latest;
    }

    private void trade(Order buyer, Order seller, int price, int amount) {
        buyer.fill(amount);
        seller.fill(amount);
        tape.add(price, amount, buyer.number, seller.number);
    }

    // ---- Stops ----

    private void setOffStops() {
        for (int step = 0; step < MOST_LIVE && !halted; step++) {
            Order stop = firstReadyStop();
            if (stop == null) {
                return;
            }
            stop.slice = stop.left;
            comeIn(stop);
        }
    }

    private Order firstReadyStop() {
        for (int number = 0; number < came; number++) {
            Order order = orderOf(number);
            if (order != null && order.state == WAITING && isReady(order)) {
                return order;
            }
        }
        return null;
    }

    private boolean isReady(Order stop) {
        int latest = tape.latestPrice;
        if (latest == NO_PRICE) {
            return false;
        }
        return stop.buys ? latest >= stop.trigger : latest <= stop.trigger;
    }

    // ---- Auctions ----

    private int volumeFor(int price) {
        return Math.min(buyers.leftAtLeast(price), sellers.leftAtLeast(price));
    }

    // Demand and supply change only at a price to sell and right behind a price to buy,
    // so the lowest of several equal prices is always one of these.
    private int priceBySums() {
        best.clear();
        for (Order order = sellers.first; order != null; order = order.next) {
            offer(order.price);
        }
        for (Order order = buyers.first; order != null; order = order.next) {
            offer(order.price + stepAt(order.price));
        }
        return best.price;
    }

    private int priceByTrying() {
        best.clear();
        for (int price = 1; price <= LAST_PRICE; price++) {
            if (isPrice(price)) {
                offer(price);
            }
        }
        return best.price;
    }

    private void offer(int price) {
        best.take(price, buyers.leftAtLeast(price), sellers.leftAtLeast(price));
    }

    private void tradeFirstOrders(int price, int amount) {
        int rest = amount;
        // Each trade but the last one fills an order.
        for (int step = 0; step < MOST_LIVE && rest > 0; step++) {
            Order buyer = buyers.first;
            Order seller = sellers.first;
            if (buyer == null || seller == null) {
                return;
            }
            int part = Math.min(rest, Math.min(buyer.left, seller.left));
            trade(buyer, seller, price, part);
            buyers.dropIfFilled(buyer);
            sellers.dropIfFilled(seller);
            rest -= part;
        }
    }

    private boolean isCrossed() {
        Order buyer = buyers.first;
        Order seller = sellers.first;
        return buyer != null && seller != null && buyer.price >= seller.price;
    }

    private static final class Order {
        final int number;
        final int owner;
        final boolean buys;
        final int trigger;
        final int price;
        final int firstAmount;
        int left;
        int traded;
        int slice;
        int shown;
        char state;
        Order next;

        Order(int number, int owner, boolean buys, int trigger, int price, int amount, int slice) {
            this.number = number;
            this.owner = owner;
            this.buys = buys;
            this.trigger = trigger;
            this.price = price;
            this.firstAmount = amount;
            this.left = amount;
            this.traded = 0;
            this.slice = slice;
            this.shown = 0;
            this.state = WAITING;
            this.next = null;
        }

        boolean isLive() {
            return state == ACTIVE || state == WAITING;
        }

        void showSlice() {
            shown = Math.min(slice, left);
        }

        void fill(int amount) {
            left -= amount;
            traded += amount;
            if (left == 0) {
                state = FILLED;
            }
        }
    }

    // The active orders of one side, chained from the first one of the best level on.
    private static final class BookSide {
        final boolean buys;
        Order first;

        BookSide(boolean buys) {
            this.buys = buys;
            this.first = null;
        }

        boolean isAtLeast(int price, int limit) {
            return buys ? price >= limit : price <= limit;
        }

        void putIn(Order newcomer) {
            Order before = null;
            for (Order order = first; order != null && isAtLeast(order.price, newcomer.price); order = order.next) {
                before = order;
            }
            if (before == null) {
                newcomer.next = first;
                first = newcomer;
            } else {
                newcomer.next = before.next;
                before.next = newcomer;
            }
        }

        void takeOut(Order leaving) {
            Order before = null;
            for (Order order = first; order != null && order != leaving; order = order.next) {
                before = order;
            }
            if (before == null) {
                first = leaving.next;
            } else {
                before.next = leaving.next;
            }
            leaving.next = null;
        }

        void dropIfFilled(Order order) {
            if (order.left == 0) {
                takeOut(order);
            }
        }

        // Puts in order what a trade has left of an order of the book.
        void settle(Order order) {
            if (order.left == 0) {
                takeOut(order);
            } else if (order.shown == 0) {
                order.showSlice();
                takeOut(order);
                putIn(order);
            }
        }

        void showSlices() {
            for (Order order = first; order != null; order = order.next) {
                order.showSlice();
            }
        }

        boolean slicesHold() {
            for (Order order = first; order != null; order = order.next) {
                if (order.shown < 1 || order.shown > order.slice) {
                    return false;
                }
            }
            return true;
        }

        int leftAtLeast(int price) {
            int sum = 0;
            for (Order order = first; order != null && isAtLeast(order.price, price); order = order.next) {
                sum += order.left;
            }
            return sum;
        }

        int ownerBits() {
            int bits = 0;
            for (Order order = first; order != null; order = order.next) {
                bits |= 1 << order.owner;
            }
            return bits;
        }

        int countLevels() {
            int count = 0;
            int price = NO_PRICE;
            for (Order order = first; order != null; order = order.next) {
                if (order.price != price) {
                    price = order.price;
                    count++;
                }
            }
            return count;
        }

        // The first order of a level, or null if there is no such level.
        Order headOf(int level) {
            int rank = -1;
            int price = NO_PRICE;
            for (Order order = first; order != null; order = order.next) {
                if (order.price != price) {
                    price = order.price;
                    rank++;
                    if (rank == level) {
                        return order;
                    }
                }
            }
            return null;
        }
    }

    // The latest trades, in rows that are used again from the start when they are full.
    private static final class Tape {
        final int[] prices;
        final int[] amounts;
        final int[] buyers;
        final int[] sellers;
        int count;
        int latestPrice;
        long amountSum;
        long moneySum;

        Tape() {
            prices = new int[KEPT_TRADES];
            amounts = new int[KEPT_TRADES];
            buyers = new int[KEPT_TRADES];
            sellers = new int[KEPT_TRADES];
            count = 0;
            latestPrice = NO_PRICE;
            amountSum = 0;
            moneySum = 0;
        }

        void add(int price, int amount, int buyer, int seller) {
            int place = Math.floorMod(count, KEPT_TRADES);
            prices[place] = price;
            amounts[place] = amount;
            buyers[place] = buyer;
            sellers[place] = seller;
            count++;
            latestPrice = price;
            amountSum += amount;
            moneySum += (long) amount * price;
        }

        // Where the trade of a rank stands in the rows, or -1 if it is not kept.
        int placeOf(int rank) {
            if (rank < 0 || rank >= count || rank >= KEPT_TRADES) {
                return -1;
            }
            return Math.floorMod(count - 1 - rank, KEPT_TRADES);
        }
    }

    // The best price for an auction among those that were offered since it was cleared.
    private static final class BestPrice {
        int price;
        int traded;
        int difference;

        BestPrice() {
            price = NO_PRICE;
            traded = 0;
            difference = 0;
        }

        void clear() {
            price = NO_PRICE;
            traded = 0;
            difference = 0;
        }

        void take(int offered, int demand, int supply) {
            int amount = Math.min(demand, supply);
            int gap = Math.abs(demand - supply);
            if (amount > 0 && isBetter(offered, amount, gap)) {
                price = offered;
                traded = amount;
                difference = gap;
            }
        }

        private boolean isBetter(int offered, int amount, int gap) {
            if (amount != traded) {
                return amount > traded;
            }
            if (gap != difference) {
                return gap < difference;
            }
            return offered < price;
        }
    }
}

import java.util.NoSuchElementException;

/** Writes down what a floor answers without changing it, so that two floors can be compared. */
final class Look {
    private Look() {
    }

    static String at(MatchFloor floor) {
        StringBuilder text = new StringBuilder();
        text.append("halted ").append(floor.isHalted()).append(" waiting ").append(floor.waiting());
        text.append(" owners ").append(floor.owners()).append(" consistent ").append(floor.isConsistent());
        for (int order = 0, count = floor.orderCount(); order < count; order++) {
            text.append("\norder ").append(order).append(' ').append(order(floor, order));
        }
        text.append(side(floor, 'b')).append(side(floor, 's'));
        text.append("\nspread ").append(spread(floor)).append(" auction ").append(auction(floor));
        text.append(" by trying ").append(auctionByTrying(floor)).append("\ntrades ").append(floor.tradeCount());
        for (int rank = 0, kept = Math.min(50, floor.tradeCount()); rank < kept; rank++) {
            text.append(' ').append(trade(floor, rank));
        }
        return text.append("\nvolume ").append(floor.volume()).append(" mean ").append(mean(floor)).toString();
    }

    /** State, what is left, what is shown (if active) and the share: "a 7/3 0.25". */
    static String order(MatchFloor floor, int order) {
        char state = floor.stateOf(order);
        String shown = state == 'a' ? "/" + floor.shownOf(order) : "";
        return state + " " + floor.leftOf(order) + shown + " " + floor.filledShare(order);
    }

    /** Price, shown, left and orders in their places of each level: "20: 3 of 9 [0, 2]". */
    static String side(MatchFloor floor, char side) {
        StringBuilder text = new StringBuilder();
        for (int level = 0, levels = floor.levels(side); level < levels; level++) {
            text.append('\n').append(side).append(' ').append(floor.levelPrice(side, level)).append(": ");
            text.append(floor.shownAt(side, level)).append(" of ").append(floor.leftAt(side, level)).append(" [");
            for (int place = 0, places = floor.ordersAt(side, level); place < places; place++) {
                text.append(place == 0 ? "" : ", ").append(floor.orderAt(side, level, place));
            }
            text.append(']');
        }
        return text.toString();
    }

    /** The price of an auction, or "none". */
    static String auction(MatchFloor floor) {
        try {
            return String.valueOf(floor.auctionPrice());
        } catch (NoSuchElementException e) {
            return "none";
        }
    }

    private static String auctionByTrying(MatchFloor floor) {
        try {
            return String.valueOf(floor.auctionPriceByTrying());
        } catch (NoSuchElementException e) {
            return "none";
        }
    }

    private static String spread(MatchFloor floor) {
        try {
            return String.valueOf(floor.spread());
        } catch (NoSuchElementException e) {
            return "none";
        }
    }

    private static String mean(MatchFloor floor) {
        try {
            return String.valueOf(floor.meanPrice());
        } catch (ArithmeticException e) {
            return "none";
        }
    }

    /** Amount, price, buyer and seller of a kept trade: "4@20 b3 s0". */
    static String trade(MatchFloor floor, int rank) {
        return floor.tradeAmount(rank) + "@" + floor.tradePrice(rank)
                + " b" + floor.tradeBuyer(rank) + " s" + floor.tradeSeller(rank);
    }

    /** All kept trades, the latest one first. */
    static String trades(MatchFloor floor) {
        StringBuilder text = new StringBuilder();
        for (int rank = 0, kept = Math.min(50, floor.tradeCount()); rank < kept; rank++) {
            text.append(rank == 0 ? "" : ", ").append(trade(floor, rank));
        }
        return text.toString();
    }
}

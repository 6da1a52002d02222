/**
 * Tells in a text what can be seen of a workshop. A view takes more calls than the document allows
 * an object, which the program does not mind: it counts no calls.
 */
final class Views {
    private Views() {
    }

    /** What undo and the snapshot cover, but for the id of the next suit. */
    static String room(TailorWorkshop x) {
        StringBuilder text = new StringBuilder("stocks");
        for (int i = 0; i < 4; i++) {
            text.append(' ').append(x.stock(i));
        }
        text.append(" totals ").append(x.boughtTotal()).append(' ').append(x.wasteTotal()).append(' ')
                .append(x.deliveredTotal()).append(' ').append(x.income()).append(' ').append(x.deliveredSuits());
        for (int i = 0; i < x.customerCount(); i++) {
            text.append("\ncustomer ").append(i).append(':');
            for (int leg = 0; leg < 2 * x.pairs(i); leg++) {
                text.append(' ').append(x.legLength(i, leg));
            }
        }
        for (int i = 0; i < x.suitCount(); i++) {
            text.append("\nsuit ").append(suit(x, x.suitAt(i)));
        }
        return text.toString();
    }

    /** All that can be seen, but for the script buffer and the id of the next suit. */
    static String all(TailorWorkshop x) {
        return room(x) + "\noutput " + output(x)
                + "\nerror " + Checks.thrownBy(x::errorPosition) + " failed " + Checks.thrownBy(x::failedCommand);
    }

    static String output(TailorWorkshop x) {
        StringBuilder text = new StringBuilder();
        for (int i = 0; i < 1000; i++) {
            try {
                text.append(x.outputAt(i));
            } catch (IndexOutOfBoundsException e) {
                return text.toString();
            }
        }
        return text.toString();
    }

    static String orderOf(TailorWorkshop x, int suit) {
        StringBuilder text = new StringBuilder();
        for (int i = 0; i < x.sleevesLeft(suit); i++) {
            text.append(i == 0 ? "" : ",").append(x.sewingOrder(suit, i));
        }
        return text.toString();
    }

    static String orderByQueueOf(TailorWorkshop x, int suit) {
        StringBuilder text = new StringBuilder();
        for (int i = 0; i < x.sleevesLeft(suit); i++) {
            text.append(i == 0 ? "" : ",").append(x.sewingOrderByQueue(suit, i));
        }
        return text.toString();
    }

    private static String suit(TailorWorkshop x, int id) {
        StringBuilder text = new StringBuilder();
        int sleeves = 2 * x.pairs(x.customerOf(id));
        text.append(id).append(" of ").append(x.clothOf(id)).append(" for ").append(x.customerOf(id)).append(':');
        for (int i = 0; i < sleeves; i++) {
            char state = x.sleeveState(id, i);
            text.append(' ').append(state == 'p' ? "" : x.sleeveLength(id, i)).append(state);
        }
        text.append(" demands ").append(x.demandCount(id));
        for (int i = 0; i < sleeves; i++) {
            for (int k = 0; k < sleeves; k++) {
                text.append(x.isBefore(id, i, k) ? " " + i + "<" + k : "");
            }
        }
        return text.append(" order ").append(orderOf(x, id)).toString();
    }
}

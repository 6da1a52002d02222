/** Tells in a text what can be seen of a workshop; each view takes few enough calls for one object. */
final class Views {
    private Views() {
    }

    /** All that can be seen of a workshop that is made so, and all that can come of it. */
    static String all(Book.Maker maker) {
        return present(maker.make()) + history(maker.make()) + snapshot(maker.make()) + next(maker.make());
    }

    /** All that can be asked of it, but for the length of the script buffer. */
    static String present(TailorWorkshop x) {
        return room(x) + "\noutput " + output(x) + errorPosition(x) + failedCommand(x);
    }

    /** What each undo gives back. Takes the workshop apart. */
    static String history(TailorWorkshop x) {
        StringBuilder text = new StringBuilder();
        boolean goesOn = true;
        for (int i = 0; goesOn && i < 20; i++) {
            String undone = Checks.thrownBy(x::undo);
            text.append("\nundo ").append(undone).append(": ").append(brief(x));
            goesOn = undone.startsWith("answer");
        }
        return text.toString();
    }

    /**
     * What the snapshot gives back. Asks for the failed command ahead of the error position, present the other way
     * round, so that it is seen if one of these two questions spoils the answer to the other.
     */
    static String snapshot(TailorWorkshop x) {
        return "\nrestore " + Checks.thrownBy(x::restore) + ": " + room(x) + failedCommand(x) + errorPosition(x);
    }

    /** What the script in the buffer does, and the id of the next suit. Takes the workshop apart. */
    static String next(TailorWorkshop x) {
        String script = "\nscript " + Checks.thrownBy(x::runScript) + ": " + brief(x);
        String faults = errorPosition(x) + failedCommand(x);
        if (x.customerCount() == 0) {
            x.addCustomer(1, 20);
        }
        if (x.suitCount() == 6) {
            x.scrap(x.suitAt(0));
        }
        return script + faults + "\nnext suit " + x.orderSuit(0, 0);
    }

    private static String errorPosition(TailorWorkshop x) {
        return "\nerror " + Checks.thrownBy(x::errorPosition);
    }

    private static String failedCommand(TailorWorkshop x) {
        return "\nfailed " + Checks.thrownBy(x::failedCommand);
    }

    /** What undo and the snapshot cover, but for the id of the next suit. */
    static String room(TailorWorkshop x) {
        StringBuilder text = new StringBuilder(totals(x));
        int customers = x.customerCount();
        for (int i = 0; i < customers; i++) {
            text.append("\ncustomer ").append(i).append(':');
            int legs = 2 * x.pairs(i);
            for (int leg = 0; leg < legs; leg++) {
                text.append(' ').append(x.legLength(i, leg));
            }
        }
        int suits = x.suitCount();
        for (int i = 0; i < suits; i++) {
            text.append("\nsuit ").append(suit(x, x.suitAt(i)));
        }
        return text.toString();
    }

    private static String totals(TailorWorkshop x) {
        StringBuilder text = new StringBuilder("stocks");
        for (int i = 0; i < 4; i++) {
            text.append(' ').append(x.stock(i));
        }
        return text.append(" totals ").append(x.boughtTotal()).append(' ').append(x.wasteTotal()).append(' ')
                .append(x.deliveredTotal()).append(' ').append(x.income()).append(' ').append(x.deliveredSuits())
                .toString();
    }

    /** What a change can hardly leave as it was. */
    private static String brief(TailorWorkshop x) {
        StringBuilder text = new StringBuilder(totals(x));
        int customers = x.customerCount();
        for (int i = 0; i < customers; i++) {
            text.append(", customer ").append(x.meanLeg(i));
        }
        int suits = x.suitCount();
        for (int i = 0; i < suits; i++) {
            int id = x.suitAt(i);
            text.append(", suit ").append(id).append(' ').append(x.price(id)).append(' ').append(x.clothNeeded(id))
                    .append(' ').append(x.sewnSleeves(id));
        }
        return text.toString();
    }

    private static String suit(TailorWorkshop x, int id) {
        StringBuilder text = new StringBuilder();
        int sleeves = 2 * x.pairs(x.customerOf(id));
        text.append(id).append(" of ").append(x.clothOf(id)).append(" for ").append(x.customerOf(id)).append(':');
        for (int i = 0; i < sleeves; i++) {
            char state = x.sleeveState(id, i);
            text.append(' ').append(state == 'p' ? "" : x.sleeveLength(id, i)).append(state);
        }
        text.append(" demands ").append(x.demandCount(id)).append(" order ").append(orderOf(x, id));
        // More sleeves would take more calls than an object may have.
        for (int i = 0; sleeves <= 4 && i < sleeves * sleeves; i++) {
            text.append(x.isBefore(id, i / sleeves, i % sleeves) ? " " + i / sleeves + "<" + i % sleeves : "");
        }
        return text.toString();
    }

    static String output(TailorWorkshop x) {
        StringBuilder text = new StringBuilder();
        for (int i = 0; i < 200; i++) {
            try {
                text.append(x.outputAt(i));
            } catch (IndexOutOfBoundsException e) {
                return text.toString();
            }
        }
        return text.toString();
    }

    static String orderOf(TailorWorkshop x, int suit) {
        StringBuilder text = new StringBuilder();
        int left = x.sleevesLeft(suit);
        for (int i = 0; i < left; i++) {
            text.append(i == 0 ? "" : ",").append(x.sewingOrder(suit, i));
        }
        return text.toString();
    }

    static String orderByQueueOf(TailorWorkshop x, int suit) {
        StringBuilder text = new StringBuilder();
        int left = x.sleevesLeft(suit);
        for (int i = 0; i < left; i++) {
            text.append(i == 0 ? "" : ",").append(x.sewingOrderByQueue(suit, i));
        }
        return text.toString();
    }
}

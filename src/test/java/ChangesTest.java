import java.util.NoSuchElementException;

/** Promises 2 to 11: the changes. */
public final class ChangesTest {
    private static final Checks CHECKS = new Checks();
    private static final Class<NoSuchElementException> MISSING = NoSuchElementException.class;
    private static final Class<IndexOutOfBoundsException> OUTSIDE = IndexOutOfBoundsException.class;
    private static final Class<IllegalArgumentException> ARGUMENT = IllegalArgumentException.class;
    private static final Class<IllegalStateException> STATE = IllegalStateException.class;
    private static final Class<UnsupportedOperationException> UNSUPPORTED = UnsupportedOperationException.class;
    private static final int MIN = Integer.MIN_VALUE;
    private static final int MAX = Integer.MAX_VALUE;

    private ChangesTest() {
    }

    public static void main(String[] arguments) {
        buyCloth();
        addCustomer();
        fit();
        orderSuit();
        cut();
        sew();
        unpick();
        demand();
        demandRefused();
        deliver();
        deliverRefused();
        scrap();
        CHECKS.end();
    }

    private static void buyCloth() {
        TailorWorkshop x = new TailorWorkshop();
        CHECKS.due(2, x.buyCloth(0, 1), 1);
        CHECKS.due(2, x.buyCloth(0, 999), 1000);
        CHECKS.due(2, x.buyCloth(3, 7), 7);
        CHECKS.due(2, x.buyCloth(0, 999), 1999);
        CHECKS.refused(2, x, UNSUPPORTED, () -> x.buyCloth(0, 2));
        CHECKS.due(2, x.buyCloth(0, 1), 2000);
        CHECKS.refused(2, x, UNSUPPORTED, () -> x.buyCloth(0, 1));
        CHECKS.due(2, x.stock(0), 2000);
        CHECKS.due(2, x.boughtTotal(), 2007);
        for (int cloth : new int[] {-1, 4, MIN, MAX}) {
            CHECKS.refused(2, x, OUTSIDE, () -> x.buyCloth(cloth, 5));
            CHECKS.refused(2, x, OUTSIDE, () -> x.buyCloth(cloth, 0));
        }
        for (int length : new int[] {0, -1, 1000, MIN, MAX}) {
            CHECKS.refused(2, x, ARGUMENT, () -> x.buyCloth(1, length));
            CHECKS.refused(2, x, ARGUMENT, () -> x.buyCloth(0, length));
        }
    }

    private static void addCustomer() {
        TailorWorkshop x = new TailorWorkshop();
        for (int wrong : new int[] {0, -1, 9, MIN, MAX}) {
            CHECKS.refused(3, x, ARGUMENT, () -> x.addCustomer(wrong, 20));
        }
        for (int wrong : new int[] {9, 61, 0, MIN, MAX}) {
            CHECKS.refused(3, x, ARGUMENT, () -> x.addCustomer(1, wrong));
        }
        CHECKS.due(3, x.addCustomer(1, 10), 0);
        CHECKS.due(3, x.addCustomer(8, 60), 1);
        CHECKS.due(3, x.addCustomer(2, 30), 2);
        CHECKS.due(3, x.addCustomer(3, 31), 3);
        CHECKS.due(3, x.addCustomer(4, 32), 4);
        CHECKS.refused(3, x, STATE, () -> x.addCustomer(4, 32));
        CHECKS.refused(3, x, ARGUMENT, () -> x.addCustomer(0, 32));
        CHECKS.refused(3, x, ARGUMENT, () -> x.addCustomer(1, 61));
        CHECKS.due(3, x.customerCount(), 5);
        CHECKS.due(3, x.pairs(1), 8);
        for (int leg = 0; leg < 16; leg++) {
            CHECKS.due(3, x.legLength(1, leg), 60);
        }
        CHECKS.due(3, x.legLength(2, 3), 30);
    }

    private static void fit() {
        TailorWorkshop x = Workshops.withSuit();
        x.addCustomer(1, 40);
        CHECKS.due(4, x.fit(0, 3, 10), 20);
        CHECKS.due(4, x.fit(0, 3, 60), 10);
        CHECKS.due(4, x.fit(0, 3, 60), 60);
        CHECKS.due(4, x.fit(1, 0, 41), 40);
        CHECKS.due(4, x.legLength(0, 2), 20);
        CHECKS.due(4, x.legLength(0, 3), 60);
        CHECKS.due(4, x.legLength(1, 0), 41);
        for (int customer : new int[] {-1, 2, MIN, MAX}) {
            CHECKS.refused(4, x, OUTSIDE, () -> x.fit(customer, 0, 20));
        }
        for (int leg : new int[] {-1, 4, MIN, MAX}) {
            CHECKS.refused(4, x, OUTSIDE, () -> x.fit(0, leg, 20));
        }
        CHECKS.refused(4, x, OUTSIDE, () -> x.fit(1, 2, 20));
        CHECKS.refused(4, x, OUTSIDE, () -> x.fit(0, 4, 9));
        for (int length : new int[] {9, 61, -20, MIN, MAX}) {
            CHECKS.refused(4, x, ARGUMENT, () -> x.fit(0, 0, length));
        }
    }

    private static void orderSuit() {
        TailorWorkshop x = new TailorWorkshop();
        CHECKS.refused(5, x, OUTSIDE, () -> x.orderSuit(0, 0));
        x.addCustomer(1, 20);
        x.addCustomer(3, 20);
        CHECKS.due(5, x.orderSuit(1, 3), 0);
        for (int i = 1; i < 6; i++) {
            CHECKS.due(5, x.orderSuit(0, 1), i);
        }
        CHECKS.refused(5, x, STATE, () -> x.orderSuit(0, 0));
        for (int wrong : new int[] {-1, MIN, MAX}) {
            CHECKS.refused(5, x, OUTSIDE, () -> x.orderSuit(wrong, 0));
            CHECKS.refused(5, x, OUTSIDE, () -> x.orderSuit(0, wrong));
        }
        CHECKS.refused(5, x, OUTSIDE, () -> x.orderSuit(2, 0));
        CHECKS.refused(5, x, OUTSIDE, () -> x.orderSuit(0, 4));
        x.scrap(5);
        CHECKS.due(5, "an id is not used again", x.orderSuit(0, 2), 6);
        CHECKS.due(5, x.clothOf(0), 3);
        CHECKS.due(5, x.sleevesLeft(0), 6);
        CHECKS.due(5, x.sleevesLeft(1), 2);
        CHECKS.due(5, x.sleeveState(0, 5), 'p');
        CHECKS.due(5, x.demandCount(0), 0);
    }

    private static void cut() {
        TailorWorkshop x = new TailorWorkshop();
        x.buyCloth(2, 46);
        x.addCustomer(2, 20);
        x.orderSuit(0, 2);
        CHECKS.due(6, x.cut(0, 0), 24);
        x.fit(0, 1, 23);
        CHECKS.refused(6, x, UNSUPPORTED, () -> x.cut(0, 1));
        x.fit(0, 1, 22);
        CHECKS.due(6, x.cut(0, 1), 0);
        CHECKS.due(6, x.sleeveState(0, 1), 'c');
        CHECKS.due(6, x.sleeveLength(0, 0), 20);
        CHECKS.due(6, x.sleeveLength(0, 1), 22);
        CHECKS.due(6, x.sleeveState(0, 2), 'p');
        CHECKS.refused(6, x, STATE, () -> x.cut(0, 0));
        x.sew(0, 0);
        CHECKS.refused(6, x, STATE, () -> x.cut(0, 0));
        CHECKS.refused(6, x, UNSUPPORTED, () -> x.cut(0, 2));
        noSuitOrSleeve(6, x, x::cut);
    }

    private interface SleeveCall {
        int answer(int suit, int sleeve);
    }

    /** The suit 0 has four sleeves, and there is no other. */
    private static void noSuitOrSleeve(int promise, TailorWorkshop x, SleeveCall call) {
        for (int suit : new int[] {-1, 1, MIN, MAX}) {
            CHECKS.refused(promise, x, MISSING, () -> call.answer(suit, 0));
            CHECKS.refused(promise, x, MISSING, () -> call.answer(suit, 4));
        }
        for (int sleeve : new int[] {-1, 4, 15, 16, MIN, MAX}) {
            CHECKS.refused(promise, x, OUTSIDE, () -> call.answer(0, sleeve));
        }
    }

    private static void sew() {
        TailorWorkshop x = Workshops.withSuit();
        x.demand(0, 3, 0);
        x.demand(0, 2, 0);
        CHECKS.refused(7, x, STATE, () -> x.sew(0, 1));
        CHECKS.refused(7, x, STATE, () -> x.sew(0, 0));
        x.cut(0, 0);
        CHECKS.refused(7, x, UNSUPPORTED, () -> x.sew(0, 0));
        x.cut(0, 3);
        CHECKS.refused(7, x, UNSUPPORTED, () -> x.sew(0, 0));
        CHECKS.due(7, x.sew(0, 3), 1);
        CHECKS.refused(7, x, UNSUPPORTED, () -> x.sew(0, 0));
        x.cut(0, 2);
        CHECKS.due(7, x.sew(0, 2), 2);
        CHECKS.due(7, x.sew(0, 0), 3);
        CHECKS.due(7, x.sleeveState(0, 0), 's');
        CHECKS.due(7, x.sleeveLength(0, 0), 20);
        CHECKS.refused(7, x, STATE, () -> x.sew(0, 0));
        noSuitOrSleeve(7, x, x::sew);
    }

    private static void unpick() {
        TailorWorkshop x = Workshops.withSuit();
        x.demand(0, 1, 2);
        CHECKS.refused(8, x, STATE, () -> x.unpick(0, 0));
        Workshops.cutAndSew(x, 0, 1);
        x.cut(0, 2);
        x.fit(0, 2, 30);
        CHECKS.due(8, "a cut sleeve keeps its length", x.unpick(0, 2), 22);
        CHECKS.due(8, x.sleeveState(0, 2), 'p');
        Workshops.cutAndSew(x, 0, 2);
        CHECKS.refused(8, x, UNSUPPORTED, () -> x.unpick(0, 1));
        CHECKS.due(8, x.unpick(0, 2), 32);
        CHECKS.due(8, x.unpick(0, 1), 22);
        CHECKS.due(8, x.wasteTotal(), 76);
        CHECKS.due(8, "waste is no stock", x.stock(0), 999 - 76);
        CHECKS.due(8, x.demandCount(0), 1);
        CHECKS.refused(8, x, STATE, () -> x.unpick(0, 1));
        noSuitOrSleeve(8, x, x::unpick);
    }

    private static void demand() {
        TailorWorkshop x = Workshops.withSuit(8, 20);
        for (int i = 0; i < 12; i++) {
            CHECKS.due(9, x.demand(0, i, i + 1), i + 1);
        }
        CHECKS.due(9, x.isBefore(0, 0, 12), true);
        CHECKS.refused(9, x, STATE, () -> x.demand(0, 13, 14));
        CHECKS.refused(9, "12 demands go ahead of a cycle", x, STATE, () -> x.demand(0, 12, 0));
        CHECKS.refused(9, "the same sleeve goes ahead of 12 demands", x, ARGUMENT, () -> x.demand(0, 3, 3));
        TailorWorkshop y = Workshops.withSuit();
        Workshops.cutAndSew(y, 0, 0);
        y.cut(0, 1);
        CHECKS.due(9, "the first is sewn, the second is not", y.demand(0, 0, 1), 1);
        CHECKS.due(9, "neither is sewn", y.demand(0, 1, 3), 2);
        CHECKS.refused(9, "the second is sewn, the first is cut", y, STATE, () -> y.demand(0, 1, 0));
        CHECKS.refused(9, "the second is sewn, the first is planned", y, STATE, () -> y.demand(0, 2, 0));
        Workshops.cutAndSew(y, 0, 2);
        CHECKS.due(9, "both are sewn", y.demand(0, 2, 0), 3);
        CHECKS.refused(9, "both are sewn, a cycle", y, UNSUPPORTED, () -> y.demand(0, 0, 2));
    }

    private static void demandRefused() {
        TailorWorkshop x = Workshops.withSuit();
        x.demand(0, 0, 1);
        x.demand(0, 1, 2);
        CHECKS.refused(9, x, STATE, () -> x.demand(0, 0, 1));
        CHECKS.refused(9, x, UNSUPPORTED, () -> x.demand(0, 1, 0));
        CHECKS.refused(9, x, UNSUPPORTED, () -> x.demand(0, 2, 0));
        CHECKS.due(9, "what follows from others is a demand of its own", x.demand(0, 0, 2), 3);
        for (int sleeve : new int[] {-1, 4, MIN, MAX}) {
            CHECKS.refused(9, x, OUTSIDE, () -> x.demand(0, sleeve, 0));
            CHECKS.refused(9, x, OUTSIDE, () -> x.demand(0, 0, sleeve));
            CHECKS.refused(9, x, OUTSIDE, () -> x.demand(0, sleeve, sleeve));
        }
        for (int suit : new int[] {-1, 1, MIN, MAX}) {
            CHECKS.refused(9, x, MISSING, () -> x.demand(suit, 0, 3));
            CHECKS.refused(9, x, MISSING, () -> x.demand(suit, 9, 9));
        }
        for (int sleeve = 0; sleeve < 4; sleeve++) {
            int same = sleeve;
            CHECKS.refused(9, x, ARGUMENT, () -> x.demand(0, same, same));
        }
        x.orderSuit(0, 0);
        CHECKS.due(9, "each suit has its own", x.demand(1, 2, 0), 1);
    }

    private static void deliver() {
        TailorWorkshop x = Workshops.withSuit(1, 20);
        x.orderSuit(0, 1);
        x.fit(0, 1, 21);
        x.demand(0, 0, 1);
        Workshops.cutAndSew(x, 0, 0, 1);
        CHECKS.due(10, x.deliver(0), 44);
        CHECKS.due(10, x.deliveredSuits(), 1);
        CHECKS.due(10, x.suitCount(), 1);
        CHECKS.due(10, x.suitAt(0), 1);
        CHECKS.due(10, x.stock(0), 999 - 45);
        CHECKS.refused(10, x, MISSING, () -> x.deliver(0));
        for (int suit : new int[] {-1, 2, MIN, MAX}) {
            CHECKS.refused(10, x, MISSING, () -> x.deliver(suit));
        }
    }

    private static void deliverRefused() {
        TailorWorkshop x = Workshops.withSuit(1, 20);
        CHECKS.refused(10, "planned", x, STATE, () -> x.deliver(0));
        Workshops.cutAndSew(x, 0, 0);
        CHECKS.refused(10, "a sleeve planned", x, STATE, () -> x.deliver(0));
        x.cut(0, 1);
        CHECKS.refused(10, "a sleeve cut", x, STATE, () -> x.deliver(0));
        x.sew(0, 1);
        x.fit(0, 1, 21);
        CHECKS.refused(10, "a sleeve does not fit", x, STATE, () -> x.deliver(0));
        x.fit(0, 1, 22);
        x.unpick(0, 1);
        Workshops.cutAndSew(x, 0, 1);
        CHECKS.refused(10, "not mirrored", x, STATE, () -> x.deliver(0));
        x.fit(0, 1, 20);
        x.unpick(0, 1);
        Workshops.cutAndSew(x, 0, 1);
        CHECKS.due(10, x.deliver(0), 40);
    }

    private static void scrap() {
        TailorWorkshop x = Workshops.withSuit();
        x.orderSuit(0, 0);
        x.orderSuit(0, 1);
        x.cut(1, 0);
        x.fit(0, 1, 30);
        Workshops.cutAndSew(x, 1, 1);
        x.fit(0, 1, 10);
        CHECKS.due(11, x.scrap(1), 54);
        CHECKS.due(11, x.wasteTotal(), 54);
        CHECKS.due(11, x.stock(0), 999 - 54);
        CHECKS.due(11, x.suitCount(), 2);
        CHECKS.due(11, x.suitAt(0), 0);
        CHECKS.due(11, x.suitAt(1), 2);
        CHECKS.refused(11, x, MISSING, () -> x.scrap(1));
        CHECKS.refused(11, x, MISSING, () -> x.scrap(-1));
        CHECKS.refused(11, x, MISSING, () -> x.scrap(3));
        CHECKS.due(11, "nothing cut", x.scrap(0), 0);
        CHECKS.due(11, x.deliveredTotal(), 0);
        x.orderSuit(0, 3);
        CHECKS.due(11, "a later suit is planned anew", x.sewnSleeves(3), 0);
        CHECKS.due(11, x.sleeveState(3, 0), 'p');
    }
}

import java.util.NoSuchElementException;

/** Promises 1 and 12 to 18: a new object, cloths and customers. */
public final class CustomersTest {
    private static final Checks CHECKS = new Checks();
    private static final Class<NoSuchElementException> MISSING = NoSuchElementException.class;
    private static final Class<IndexOutOfBoundsException> OUTSIDE = IndexOutOfBoundsException.class;
    private static final int MIN = Integer.MIN_VALUE;
    private static final int MAX = Integer.MAX_VALUE;

    private CustomersTest() {
    }

    public static void main(String[] arguments) {
        newObject();
        stock();
        customerCountAndPairs();
        legs();
        mirrorLeg();
        isMirrored();
        customerByLegs();
        CHECKS.end();
    }

    private static void newObject() {
        TailorWorkshop x = new TailorWorkshop();
        CHECKS.due(1, Views.room(x), "stocks 0 0 0 0 totals 0 0 0 0 0");
        CHECKS.due(1, x.customerCount(), 0);
        CHECKS.due(1, x.suitCount(), 0);
        CHECKS.due(1, x.isConsistent(), true);
        CHECKS.due(1, Views.output(x), "");
        CHECKS.refused(1, x, MISSING, x::undo);
        CHECKS.refused(1, x, MISSING, x::errorPosition);
        CHECKS.refused(1, x, MISSING, x::failedCommand);
        CHECKS.refused(1, x, IllegalStateException.class, x::restore);
        CHECKS.due(1, "the buffer is empty", x.type('b'), 1);
        TailorWorkshop y = new TailorWorkshop();
        y.buyCloth(0, 5);
        CHECKS.due(1, "an object of its own", x.stock(0), 0);
    }

    private static void stock() {
        TailorWorkshop x = new TailorWorkshop();
        x.buyCloth(3, 30);
        x.buyCloth(0, 15);
        CHECKS.due(12, x.stock(0), 15);
        CHECKS.due(12, x.stock(1), 0);
        CHECKS.due(12, x.stock(3), 30);
        for (int cloth : new int[] {-1, 4, MIN, MAX}) {
            CHECKS.refused(12, x, OUTSIDE, () -> x.stock(cloth));
        }
    }

    private static void customerCountAndPairs() {
        TailorWorkshop x = new TailorWorkshop();
        CHECKS.refused(14, x, OUTSIDE, () -> x.pairs(0));
        for (int i = 0; i < 5; i++) {
            x.addCustomer(8 - i, 20);
            CHECKS.due(13, x.customerCount(), i + 1);
            CHECKS.due(14, x.pairs(i), 8 - i);
        }
        for (int customer : new int[] {-1, 5, MIN, MAX}) {
            CHECKS.refused(14, x, OUTSIDE, () -> x.pairs(customer));
        }
    }

    private static void legs() {
        TailorWorkshop x = new TailorWorkshop();
        x.addCustomer(1, 20);
        x.addCustomer(8, 33);
        x.fit(1, 15, 34);
        CHECKS.due(15, x.legLength(1, 15), 34);
        CHECKS.due(15, x.legLength(1, 14), 33);
        CHECKS.due(15, x.legLength(0, 1), 20);
        noCustomerOrLeg(15, x, x::legLength);
    }

    private interface LegCall {
        int answer(int customer, int leg);
    }

    /** The customer 0 has two legs, the customer 1 has sixteen, and there is no other. */
    private static void noCustomerOrLeg(int promise, TailorWorkshop x, LegCall call) {
        for (int leg : new int[] {-1, 2, 16, MIN, MAX}) {
            CHECKS.refused(promise, x, OUTSIDE, () -> call.answer(0, leg));
        }
        CHECKS.refused(promise, x, OUTSIDE, () -> call.answer(1, 16));
        for (int customer : new int[] {-1, 2, MIN, MAX}) {
            CHECKS.refused(promise, x, OUTSIDE, () -> call.answer(customer, 0));
        }
    }

    private static void mirrorLeg() {
        TailorWorkshop x = new TailorWorkshop();
        x.addCustomer(1, 20);
        x.addCustomer(8, 33);
        CHECKS.due(16, x.mirrorLeg(0, 0), 1);
        CHECKS.due(16, x.mirrorLeg(0, 1), 0);
        for (int pair = 0; pair < 8; pair++) {
            CHECKS.due(16, x.mirrorLeg(1, 2 * pair), 2 * pair + 1);
            CHECKS.due(16, x.mirrorLeg(1, 2 * pair + 1), 2 * pair);
        }
        noCustomerOrLeg(16, x, x::mirrorLeg);
    }

    private static void isMirrored() {
        TailorWorkshop x = new TailorWorkshop();
        x.addCustomer(2, 20);
        x.addCustomer(8, 20);
        CHECKS.due(17, x.isMirrored(0), true);
        x.fit(0, 0, 21);
        CHECKS.due(17, "the left longer by 1", x.isMirrored(0), true);
        x.fit(0, 0, 22);
        CHECKS.due(17, "the left longer by 2", x.isMirrored(0), false);
        x.fit(0, 1, 23);
        CHECKS.due(17, "the right longer by 1, pairs apart", x.isMirrored(0), true);
        x.fit(0, 1, 24);
        CHECKS.due(17, "the right longer by 2", x.isMirrored(0), false);
        CHECKS.due(17, x.isMirrored(1), true);
        x.fit(1, 15, 18);
        CHECKS.due(17, "the last pair", x.isMirrored(1), false);
        for (int customer : new int[] {-1, 2, MIN, MAX}) {
            CHECKS.refused(17, x, OUTSIDE, () -> x.isMirrored(customer));
        }
    }

    private static void customerByLegs() {
        TailorWorkshop x = new TailorWorkshop();
        CHECKS.refused(18, x, MISSING, () -> x.customerByLegs(0));
        x.addCustomer(1, 40);
        x.addCustomer(4, 10);
        x.addCustomer(2, 60);
        x.addCustomer(2, 20);
        x.addCustomer(1, 10);
        ranks(x, 2, 0, 1, 3, 4);
        x.fit(3, 0, 21);
        ranks(x, 2, 3, 0, 1, 4);
        x.fit(4, 1, 60);
        x.fit(0, 0, 30);
        ranks(x, 2, 3, 1, 0, 4);
        for (int rank : new int[] {-1, 5, MIN, MAX}) {
            CHECKS.refused(18, x, MISSING, () -> x.customerByLegs(rank));
        }
    }

    private static void ranks(TailorWorkshop x, int... customers) {
        for (int rank = 0; rank < customers.length; rank++) {
            CHECKS.due(18, "rank " + rank, x.customerByLegs(rank), customers[rank]);
        }
    }
}

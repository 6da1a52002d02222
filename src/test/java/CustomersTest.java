import java.util.NoSuchElementException;

/** Promises 1 and 12 to 18: a new object, cloths and customers. */
public final class CustomersTest {
    private static final Book BOOK = new Book();
    private static final Class<NoSuchElementException> MISSING = NoSuchElementException.class;
    private static final Class<IndexOutOfBoundsException> OUTSIDE = IndexOutOfBoundsException.class;

    private CustomersTest() {
    }

    public static void main(String[] arguments) {
        newObject();
        stock();
        customerCount();
        pairs();
        legLength();
        mirrorLeg();
        isMirrored();
        customerByLegs();
        BOOK.end();
    }

    private static void newObject() {
        BOOK.promise(1);
        BOOK.test("Creates a workshop without customers, suits and cloth.", () -> {
            TailorWorkshop x = new TailorWorkshop();
            BOOK.due(Views.room(x), "stocks 0 0 0 0 totals 0 0 0 0 0");
            BOOK.due("customers", x.customerCount(), 0);
            BOOK.due("suits", x.suitCount(), 0);
            BOOK.due("the check", x.isConsistent(), true);
            BOOK.due("texts and scripts", Views.present(x), "stocks 0 0 0 0 totals 0 0 0 0 0\noutput \n"
                    + "error NoSuchElementException\nfailed NoSuchElementException");
            BOOK.due("undo", Checks.thrownBy(x::undo), "NoSuchElementException");
            BOOK.due("snapshot", Checks.thrownBy(x::restore), "IllegalStateException");
            BOOK.due("the buffer", x.type('b'), 1);
            TailorWorkshop y = Workshops.dressed(Workshops.withSuit());
            BOOK.due("an object of its own", Views.room(new TailorWorkshop()), "stocks 0 0 0 0 totals 0 0 0 0 0");
            BOOK.due(y.stock(0), 999);
        });
    }

    private static TailorWorkshop withCloths() {
        TailorWorkshop x = new TailorWorkshop();
        x.buyCloth(0, 15);
        x.buyCloth(1, 999);
        x.buyCloth(1, 999);
        x.buyCloth(1, 2);
        x.buyCloth(3, 1);
        return x;
    }

    private static void stock() {
        BOOK.promise(12);
        BOOK.test("Returns the stock of a cloth.", "Returns the stock in centimetres.", () -> {
            TailorWorkshop x = withCloths();
            BOOK.due(x.stock(0), 15);
            BOOK.due("full", x.stock(1), 2000);
            BOOK.due("empty", x.stock(2), 0);
            BOOK.due(x.stock(3), 1);
        });
        BOOK.test("Throws `IndexOutOfBoundsException` if there is no such cloth", () -> {
            for (int cloth : Workshops.outside(4)) {
                BOOK.refused("cloth " + cloth, OUTSIDE, CustomersTest::withCloths, x -> x.stock(cloth));
            }
        });
    }

    private static void customerCount() {
        BOOK.promise(13);
        BOOK.test("Returns the number of customers.", () -> {
            TailorWorkshop x = new TailorWorkshop();
            BOOK.due("none", x.customerCount(), 0);
            for (int i = 1; i <= 5; i++) {
                x.addCustomer(8, 60);
                BOOK.due(x.customerCount(), i);
            }
            Checks.thrownBy(() -> x.addCustomer(1, 20));
            BOOK.due("the most", x.customerCount(), 5);
            x.undo();
            BOOK.due("one less", x.customerCount(), 4);
        });
    }

    private interface CustomerCall {
        Object on(TailorWorkshop x, int customer);
    }

    private static void noCustomer(CustomerCall call) {
        for (int customer : Workshops.outside(2)) {
            BOOK.refused("customer " + customer, OUTSIDE, Workshops::withCustomers, x -> call.on(x, customer));
        }
        for (int customer : Workshops.outside(5)) {
            BOOK.refused("five, customer " + customer, OUTSIDE, CustomersTest::ranked, x -> call.on(x, customer));
        }
        BOOK.refused("none at all", OUTSIDE, TailorWorkshop::new, x -> call.on(x, 0));
        BOOK.refused("undone", OUTSIDE, () -> {
            TailorWorkshop x = Workshops.withCustomers();
            x.undo();
            return x;
        }, x -> call.on(x, 1));
    }

    private interface LegCall {
        Object on(TailorWorkshop x, int customer, int leg);
    }

    private static void noCustomerOrLeg(LegCall call) {
        BOOK.test("Throws `IndexOutOfBoundsException` if there is no such customer, or the customer has no such leg",
                () -> {
            noCustomer((x, customer) -> call.on(x, customer, 0));
            for (int leg : Workshops.outside(2)) {
                BOOK.refused("leg " + leg, OUTSIDE, Workshops::withCustomers, x -> call.on(x, 0, leg));
            }
            for (int leg : Workshops.outside(16)) {
                BOOK.refused("leg " + leg, OUTSIDE, Workshops::withCustomers, x -> call.on(x, 1, leg));
            }
        });
    }

    private static void pairs() {
        BOOK.promise(14);
        BOOK.test("Returns the number of leg pairs of a customer.", "Returns the number of pairs.", () -> {
            for (int pairs = 1; pairs <= 8; pairs++) {
                TailorWorkshop x = Workshops.withCustomers();
                x.addCustomer(pairs, 20);
                BOOK.due(x.pairs(0) + " " + x.pairs(1) + " " + x.pairs(2), "1 8 " + pairs);
            }
        });
        BOOK.test("Throws `IndexOutOfBoundsException` if there is no such customer",
                () -> noCustomer(TailorWorkshop::pairs));
    }

    private static void legLength() {
        BOOK.promise(15);
        BOOK.test("Returns the length of a leg.", "Returns the length.", () -> {
            TailorWorkshop x = Workshops.withCustomers();
            for (int leg = 0; leg < 16; leg++) {
                x.fit(1, leg, 60 - leg);
            }
            for (int leg = 0; leg < 16; leg++) {
                BOOK.due(x.legLength(1, leg), 60 - leg);
            }
            BOOK.due(x.legLength(0, 0), 20);
            x.fit(0, 1, 10);
            BOOK.due("the shortest", x.legLength(0, 1), 10);
        });
        noCustomerOrLeg(TailorWorkshop::legLength);
    }

    private static void mirrorLeg() {
        BOOK.promise(16);
        BOOK.test("Returns the mirror leg of a leg.", "Returns the number of the other leg of the pair.", () -> {
            TailorWorkshop x = Workshops.withCustomers();
            BOOK.due(x.mirrorLeg(0, 0), 1);
            BOOK.due(x.mirrorLeg(0, 1), 0);
            for (int pair = 0; pair < 8; pair++) {
                BOOK.due(x.mirrorLeg(1, 2 * pair), 2 * pair + 1);
                BOOK.due(x.mirrorLeg(1, 2 * pair + 1), 2 * pair);
            }
        });
        noCustomerOrLeg(TailorWorkshop::mirrorLeg);
    }

    private static void isMirrored() {
        BOOK.promise(17);
        BOOK.test("Returns whether the two legs of each pair of a customer have lengths that differ by at most 1"
                + " centimetre.", () -> {
            for (int leg = 0; leg < 16; leg++) {
                TailorWorkshop x = Workshops.withCustomers();
                for (int length = 10; length <= 60; length++) {
                    x.fit(1, leg, length);
                    BOOK.due("leg " + leg + " is " + length, x.isMirrored(1), length >= 19 && length <= 21);
                }
                BOOK.due("another customer", x.isMirrored(0), true);
            }
        });
        BOOK.test("Returns true if they do.", () -> {
            TailorWorkshop x = new TailorWorkshop();
            x.addCustomer(2, 20);
            BOOK.due(x.isMirrored(0), true);
            x.fit(0, 0, 40);
            x.fit(0, 1, 41);
            BOOK.due("the pairs apart", x.isMirrored(0), true);
            x.fit(0, 2, 19);
            BOOK.due("one longer, the other shorter", x.isMirrored(0), true);
        });
        BOOK.test("Throws `IndexOutOfBoundsException` if there is no such customer",
                () -> noCustomer(TailorWorkshop::isMirrored));
    }

    /** Five customers whose legs are 80, 80, 240, 80 and 20 long in all. */
    private static TailorWorkshop ranked() {
        TailorWorkshop x = new TailorWorkshop();
        x.addCustomer(1, 40);
        x.addCustomer(4, 10);
        x.addCustomer(2, 60);
        x.addCustomer(2, 20);
        x.addCustomer(1, 10);
        return x;
    }

    private static String ranks(TailorWorkshop x) {
        StringBuilder text = new StringBuilder();
        for (int rank = 0; rank < x.customerCount(); rank++) {
            text.append(x.customerByLegs(rank));
        }
        return text.toString();
    }

    private static void customerByLegs() {
        BOOK.promise(18);
        BOOK.test("Returns the customer at a rank when customers are sorted by the sum of the lengths of all legs in"
                + " descending order, then by index in ascending order.", () -> {
            TailorWorkshop x = ranked();
            BOOK.due("three with the same sum", ranks(x), "20134");
            x.fit(3, 3, 21);
            BOOK.due("the later one by 1 longer", ranks(x), "23014");
            x.fit(0, 1, 41);
            BOOK.due("the same again", ranks(x), "20314");
            x.fit(0, 0, 38);
            BOOK.due("by 2 shorter", ranks(x), "23104");
            TailorWorkshop y = new TailorWorkshop();
            for (int i = 0; i < 5; i++) {
                y.addCustomer(8, 60);
            }
            BOOK.due("all with the greatest sum", ranks(y), "01234");
        });
        BOOK.test("`rank`: the rank, counted from 0", () -> {
            TailorWorkshop x = Workshops.withCustomers();
            BOOK.due("the first", x.customerByLegs(0), 1);
            BOOK.due("the last", x.customerByLegs(1), 0);
        });
        BOOK.test("Returns the index of the customer.", () -> {
            BOOK.due(ranked().customerByLegs(0), 2);
            BOOK.due(ranked().customerByLegs(4), 4);
        });
        BOOK.test("Throws `NoSuchElementException` if there is no such rank", () -> {
            for (int rank : Workshops.outside(5)) {
                BOOK.refused("five, rank " + rank, MISSING, CustomersTest::ranked, x -> x.customerByLegs(rank));
            }
            for (int rank : Workshops.outside(2)) {
                BOOK.refused("rank " + rank, MISSING, Workshops::withCustomers, x -> x.customerByLegs(rank));
            }
            BOOK.refused("none at all", MISSING, TailorWorkshop::new, x -> x.customerByLegs(0));
        });
    }
}

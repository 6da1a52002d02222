/** Promises 37 to 44: totals and checks. */
public final class TotalsTest {
    private static final Book BOOK = new Book();
    private static final Class<IndexOutOfBoundsException> OUTSIDE = IndexOutOfBoundsException.class;

    private TotalsTest() {
    }

    public static void main(String[] arguments) {
        boughtTotal();
        wasteTotal();
        deliveredTotal();
        income();
        deliveredSuits();
        meanLeg();
        wasteShare();
        isConsistent();
        BOOK.end();
    }

    /** One pair of legs of 20 and 21, and two suits with a demand each: the suit 0 is sewn, the suit 1 planned. */
    private static TailorWorkshop withTwoSuits() {
        TailorWorkshop x = new TailorWorkshop();
        x.buyCloth(0, 100);
        x.buyCloth(2, 50);
        x.addCustomer(1, 20);
        x.fit(0, 1, 21);
        x.orderSuit(0, 0);
        x.orderSuit(0, 2);
        x.demand(0, 0, 1);
        x.demand(1, 1, 0);
        Workshops.cutAndSew(x, 0, 0, 1);
        return x;
    }

    private static void boughtTotal() {
        BOOK.promise(37);
        BOOK.test("Returns the centimetres of cloth that have been bought so far.", () -> {
            TailorWorkshop x = withTwoSuits();
            BOOK.due("of all cloths, cut ones too", x.boughtTotal(), 150);
            x.deliver(0);
            x.cut(1, 0);
            x.scrap(1);
            BOOK.due("delivered and waste too", x.boughtTotal(), 150);
            x.buyCloth(3, 999);
            BOOK.due(x.boughtTotal(), 1149);
            x.undo();
            BOOK.due("undone", x.boughtTotal(), 150);
        });
        BOOK.test("Returns the number of centimetres.", () -> {
            TailorWorkshop x = new TailorWorkshop();
            BOOK.due("none", x.boughtTotal(), 0);
            for (int cloth = 0; cloth < 4; cloth++) {
                x.buyCloth(cloth, 999);
                x.buyCloth(cloth, 999);
                x.buyCloth(cloth, 2);
            }
            BOOK.due("all are full", x.boughtTotal(), 8000);
            Checks.thrownBy(() -> x.buyCloth(0, 1));
            Checks.thrownBy(() -> x.buyCloth(4, 1));
            BOOK.due("after a purchase that was refused", x.boughtTotal(), 8000);
        });
    }

    private static void wasteTotal() {
        BOOK.promise(38);
        BOOK.test("Returns the centimetres of cloth that have become waste so far.", () -> {
            TailorWorkshop x = withTwoSuits();
            x.unpick(0, 1);
            BOOK.due("unpicked", x.wasteTotal(), 23);
            Workshops.cutAndSew(x, 0, 1);
            x.deliver(0);
            BOOK.due("delivered cloth is no waste", x.wasteTotal(), 23);
            x.cut(1, 0);
            x.scrap(1);
            BOOK.due("scrapped", x.wasteTotal(), 23 + 22);
            x.undo();
            BOOK.due("undone", x.wasteTotal(), 23);
        });
        BOOK.test("Returns the number of centimetres.", () -> {
            TailorWorkshop x = withTwoSuits();
            BOOK.due("none", x.wasteTotal(), 0);
            Checks.thrownBy(() -> x.unpick(0, 0));
            BOOK.due("after one that was refused", x.wasteTotal(), 0);
            x.scrap(1);
            BOOK.due("nothing was cut", x.wasteTotal(), 0);
        });
    }

    private static void deliveredTotal() {
        BOOK.promise(39);
        BOOK.test("Returns the centimetres of cloth in delivered suits: the lengths of their sleeves plus 2 for each.",
                () -> {
            TailorWorkshop x = withTwoSuits();
            x.deliver(0);
            BOOK.due(x.deliveredTotal(), 45);
            Workshops.cutAndSew(x, 1, 1, 0);
            x.deliver(1);
            BOOK.due("two", x.deliveredTotal(), 90);
            TailorWorkshop y = Workshops.withSewnSuit(8, 60);
            y.deliver(0);
            BOOK.due("the most legs", y.deliveredTotal(), 16 * 62);
            y.undo();
            BOOK.due("undone", y.deliveredTotal(), 0);
        });
        BOOK.test("Returns the number of centimetres.", () -> {
            TailorWorkshop x = withTwoSuits();
            BOOK.due("none, though one is sewn", x.deliveredTotal(), 0);
            Checks.thrownBy(() -> x.deliver(1));
            BOOK.due("after one that was refused", x.deliveredTotal(), 0);
            x.scrap(0);
            BOOK.due("scrapped", x.deliveredTotal(), 0);
        });
    }

    private static void income() {
        BOOK.promise(40);
        BOOK.test("Returns the sum of the prices of all delivered suits.", () -> {
            TailorWorkshop x = withTwoSuits();
            x.deliver(0);
            BOOK.due(x.income(), 44);
            Workshops.cutAndSew(x, 1, 1, 0);
            x.deliver(1);
            BOOK.due("two", x.income(), 88);
            x.fit(0, 0, 60);
            BOOK.due("the legs change later", x.income(), 88);
        });
        BOOK.test("Returns the sum.", () -> {
            TailorWorkshop x = withTwoSuits();
            BOOK.due("none, though one is sewn", x.income(), 0);
            Checks.thrownBy(() -> x.deliver(1));
            BOOK.due("after one that was refused", x.income(), 0);
            x.deliver(0);
            x.undo();
            BOOK.due("undone", x.income(), 0);
            x.scrap(0);
            BOOK.due("scrapped", x.income(), 0);
        });
    }

    private static void deliveredSuits() {
        BOOK.promise(41);
        BOOK.test("Returns the number of delivered suits.", "Returns the number of suits.", () -> {
            TailorWorkshop x = withTwoSuits();
            BOOK.due("none, though one is sewn", x.deliveredSuits(), 0);
            Checks.thrownBy(() -> x.deliver(1));
            BOOK.due("after one that was refused", x.deliveredSuits(), 0);
            x.deliver(0);
            BOOK.due(x.deliveredSuits(), 1);
            x.scrap(1);
            BOOK.due("a scrapped one is not delivered", x.deliveredSuits(), 1);
            for (int i = 2; i <= 8; i++) {
                int suit = x.orderSuit(0, 2);
                x.buyCloth(2, 45);
                Workshops.cutAndSew(x, suit, 0, 1);
                x.deliver(suit);
                BOOK.due("more than there can be at a time", x.deliveredSuits(), i);
            }
            x.undo();
            BOOK.due("undone", x.deliveredSuits(), 7);
        });
    }

    private static void meanLeg() {
        BOOK.promise(42);
        BOOK.test("Returns the mean length of the legs of a customer: the sum divided by the number of legs, both"
                + " converted to double.", () -> {
            TailorWorkshop x = new TailorWorkshop();
            x.addCustomer(2, 20);
            x.addCustomer(3, 60);
            x.fit(0, 3, 21);
            BOOK.due("no whole number", x.meanLeg(0), 20.25);
            x.fit(1, 0, 50);
            BOOK.due("no finite fraction", x.meanLeg(1), 350.0 / 6.0);
            x.fit(1, 1, 59);
            BOOK.due("no finite fraction", x.meanLeg(1), 349.0 / 6.0);
        });
        BOOK.test("Returns the mean length.", () -> {
            TailorWorkshop x = new TailorWorkshop();
            x.addCustomer(1, 10);
            x.addCustomer(8, 60);
            BOOK.due("the least", x.meanLeg(0), 10.0);
            BOOK.due("the greatest", x.meanLeg(1), 60.0);
            x.fit(1, 15, 59);
            BOOK.due("the last leg", x.meanLeg(1), 959.0 / 16.0);
        });
        BOOK.test("Throws `IndexOutOfBoundsException` if there is no such customer", () -> {
            for (int customer : Workshops.outside(2)) {
                BOOK.refused("customer " + customer, OUTSIDE, Workshops::withCustomers, x -> x.meanLeg(customer));
            }
            BOOK.refused("none at all", OUTSIDE, TailorWorkshop::new, x -> x.meanLeg(0));
        });
    }

    private static void wasteShare() {
        BOOK.promise(43);
        BOOK.test("Returns the share of bought cloth that has become waste, both lengths converted to float.", () -> {
            TailorWorkshop x = withTwoSuits();
            x.unpick(0, 1);
            BOOK.due(x.wasteShare(), 23.0f / 150.0f);
            x.buyCloth(1, 1);
            BOOK.due("more is bought", x.wasteShare(), 23.0f / 151.0f);
            x.scrap(0);
            BOOK.due("more is waste", x.wasteShare(), 45.0f / 151.0f);
        });
        BOOK.test("Returns the share.", () -> {
            TailorWorkshop x = new TailorWorkshop();
            x.buyCloth(1, 24);
            BOOK.due("nothing", x.wasteShare(), 0.0f);
            x.addCustomer(1, 10);
            x.orderSuit(0, 1);
            Workshops.cutAndSew(x, 0, 0, 1);
            BOOK.due("cut and sewn sleeves are no waste", x.wasteShare(), 0.0f);
            x.scrap(0);
            BOOK.due("all", x.wasteShare(), 1.0f);
        });
        BOOK.test("Throws `ArithmeticException` if no cloth has been bought", () -> {
            BOOK.refused(ArithmeticException.class, TailorWorkshop::new, x -> x.wasteShare());
            BOOK.refused("with suits", ArithmeticException.class, () -> {
                TailorWorkshop x = Workshops.withCustomers();
                x.orderSuit(0, 0);
                return x;
            }, x -> x.wasteShare());
            BOOK.refused("the purchase is undone", ArithmeticException.class, () -> {
                TailorWorkshop x = new TailorWorkshop();
                x.buyCloth(0, 1);
                x.undo();
                return x;
            }, x -> x.wasteShare());
        });
    }

    private static void isConsistent() {
        BOOK.promise(44);
        BOOK.test("Checks the state: both ways to find the first sewing order and the needed cloth agree for all"
                + " suits, no demands form a cycle, each sewn sleeve has only sewn sleeves before it, and the bought"
                + " cloth is in the stocks, in the cut and sewn sleeves, in delivered suits or waste.", () -> {
            TailorWorkshop x = withTwoSuits();
            BOOK.due("in sewn sleeves", x.isConsistent(), true);
            x.unpick(0, 1);
            BOOK.due("in waste", x.isConsistent(), true);
            Workshops.cutAndSew(x, 0, 1);
            x.deliver(0);
            BOOK.due("in a delivered suit", x.isConsistent(), true);
            x.cut(1, 1);
            BOOK.due("in a cut sleeve", x.isConsistent(), true);
            x.fit(0, 1, 60);
            BOOK.due("in a sleeve that does not fit", x.isConsistent(), true);
        });
        BOOK.test("Returns true if all of this holds.", () -> {
            BOOK.due("nothing at all", new TailorWorkshop().isConsistent(), true);
            BOOK.due("the most legs, all planned", Workshops.withSuit(8, 60).isConsistent(), true);
            TailorWorkshop x = Workshops.withSewnSuit(8, 60);
            BOOK.due("the most legs", x.isConsistent(), true);
            for (int i = 0; i < 12; i++) {
                x.demand(0, i, 15);
            }
            BOOK.due("the most demands, all sewn", x.isConsistent(), true);
            x.undo();
            BOOK.due("undone", x.isConsistent(), true);
            x.scrap(0);
            BOOK.due("scrapped", x.isConsistent(), true);
        });
    }
}

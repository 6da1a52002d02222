import java.util.NoSuchElementException;

/** Promises 2 to 11: the changes. */
public final class ChangesTest {
    private static final Book BOOK = new Book();
    private static final Class<NoSuchElementException> MISSING = NoSuchElementException.class;
    private static final Class<IndexOutOfBoundsException> OUTSIDE = IndexOutOfBoundsException.class;
    private static final Class<IllegalArgumentException> ARGUMENT = IllegalArgumentException.class;
    private static final Class<IllegalStateException> STATE = IllegalStateException.class;
    private static final Class<UnsupportedOperationException> UNSUPPORTED = UnsupportedOperationException.class;

    private ChangesTest() {
    }

    public static void main(String[] arguments) {
        buyCloth();
        addCustomer();
        fit();
        orderSuit();
        cut();
        sew();
        unpick();
        demand();
        deliver();
        scrap();
        BOOK.end();
    }

    private static void buyCloth() {
        BOOK.promise(2);
        BOOK.test("Buys cloth.", () -> {
            TailorWorkshop x = new TailorWorkshop();
            x.buyCloth(2, 70);
            x.buyCloth(2, 5);
            BOOK.due(Views.room(x), "stocks 0 0 75 0 totals 75 0 0 0 0");
        });
        BOOK.test("Returns the stock of this cloth.", () -> {
            TailorWorkshop x = new TailorWorkshop();
            for (int cloth = 0; cloth < 4; cloth++) {
                BOOK.due(x.buyCloth(cloth, 1), 1);
                BOOK.due(x.buyCloth(cloth, 999), 1000);
                BOOK.due(x.buyCloth(cloth, 30), 1030);
            }
        });
        buyClothRefused();
    }

    private static void buyClothRefused() {
        BOOK.test("Throws `IndexOutOfBoundsException` if there is no such cloth", () -> {
            for (int cloth : Workshops.outside(4)) {
                BOOK.refused("cloth " + cloth, OUTSIDE, Workshops::withSuit, x -> x.buyCloth(cloth, 5));
            }
            BOOK.due("the first", new TailorWorkshop().buyCloth(0, 5), 5);
            BOOK.due("the last", new TailorWorkshop().buyCloth(3, 5), 5);
        });
        BOOK.test("Throws `IllegalArgumentException` if the length is not between 1 and 999", () -> {
            for (int length : Workshops.notBetween(1, 999)) {
                BOOK.refused("length " + length, ARGUMENT, Workshops::withSuit, x -> x.buyCloth(0, length));
                BOOK.refused("length " + length, ARGUMENT, TailorWorkshop::new, x -> x.buyCloth(3, length));
            }
            BOOK.due("the least", Workshops.withSuit().buyCloth(0, 1), 1000);
            BOOK.due("the most", Workshops.withSuit().buyCloth(0, 999), 1998);
        });
        BOOK.test("Throws `UnsupportedOperationException` if the stock would be greater than 2000", () -> {
            for (int cloth = 0; cloth < 4; cloth++) {
                int same = cloth;
                BOOK.refused("2001", UNSUPPORTED, () -> withStock(same, 1999), x -> x.buyCloth(same, 2));
                BOOK.refused("2001", UNSUPPORTED, () -> withStock(same, 1002), x -> x.buyCloth(same, 999));
                BOOK.refused("2001", UNSUPPORTED, () -> withStock(same, 2000), x -> x.buyCloth(same, 1));
                BOOK.refused("2999", UNSUPPORTED, () -> withStock(same, 2000), x -> x.buyCloth(same, 999));
                BOOK.due("2000", withStock(same, 1999).buyCloth(same, 1), 2000);
                BOOK.due("2000", withStock(same, 1001).buyCloth(same, 999), 2000);
                BOOK.due("another is full", withStock(same, 2000).buyCloth((same + 1) % 4, 999), 999);
            }
        });
    }

    private static TailorWorkshop withStock(int cloth, int centimetres) {
        TailorWorkshop x = new TailorWorkshop();
        for (int left = centimetres; left > 0; left -= 999) {
            x.buyCloth(cloth, Math.min(left, 999));
        }
        return x;
    }

    private static void addCustomer() {
        BOOK.promise(3);
        BOOK.test("Adds a customer, all of whose legs have the same length.", () -> {
            for (int pairs = 1; pairs <= 8; pairs++) {
                TailorWorkshop x = new TailorWorkshop();
                x.addCustomer(pairs, 9 + pairs);
                BOOK.due(Views.room(x), "stocks 0 0 0 0 totals 0 0 0 0 0\ncustomer 0:"
                        + (" " + (9 + pairs)).repeat(2 * pairs));
            }
        });
        BOOK.test("Returns the index of the customer.", () -> {
            TailorWorkshop x = new TailorWorkshop();
            for (int i = 0; i < 5; i++) {
                BOOK.due(x.addCustomer(8 - i, 60 - i), i);
            }
        });
        BOOK.test("Throws `IllegalArgumentException` if the number of pairs is not between 1 and 8, or the length is"
                + " not between 10 and 60", () -> {
            for (int pairs : Workshops.notBetween(1, 8)) {
                BOOK.refused("pairs " + pairs, ARGUMENT, Workshops::withSuit, x -> x.addCustomer(pairs, 20));
            }
            for (int length : Workshops.notBetween(10, 60)) {
                BOOK.refused("length " + length, ARGUMENT, Workshops::withSuit, x -> x.addCustomer(2, length));
            }
            BOOK.refused("both", ARGUMENT, Workshops::withSuit, x -> x.addCustomer(9, 61));
            BOOK.due("the least", Workshops.withSuit().addCustomer(1, 10), 1);
            BOOK.due("the most", Workshops.withSuit().addCustomer(8, 60), 1);
        });
        BOOK.test("Throws `IllegalStateException` if there are 5 customers", () -> {
            BOOK.refused(STATE, ChangesTest::withFiveCustomers, x -> x.addCustomer(1, 20));
            BOOK.refused(STATE, ChangesTest::withFiveCustomers, x -> x.addCustomer(8, 60));
            TailorWorkshop x = withFiveCustomers();
            x.undo();
            BOOK.due("there are 4", x.addCustomer(1, 20), 4);
        });
    }

    private static TailorWorkshop withFiveCustomers() {
        TailorWorkshop x = Workshops.withSuit();
        for (int i = 1; i < 5; i++) {
            x.addCustomer(i, 20 + i);
        }
        return x;
    }

    private static void fit() {
        BOOK.promise(4);
        BOOK.test("Changes the length of a leg.", () -> {
            TailorWorkshop x = Workshops.withCustomers();
            x.fit(1, 15, 10);
            x.fit(1, 0, 60);
            x.fit(0, 1, 33);
            BOOK.due(Views.room(x), "stocks 0 0 0 0 totals 0 0 0 0 0\ncustomer 0: 20 33\ncustomer 1: 60"
                    + " 20".repeat(14) + " 10");
        });
        BOOK.test("Returns the previous length.", () -> {
            TailorWorkshop x = Workshops.withSuit();
            BOOK.due(x.fit(0, 3, 10), 20);
            BOOK.due(x.fit(0, 3, 60), 10);
            BOOK.due("the same as before", x.fit(0, 3, 60), 60);
            BOOK.due(x.fit(0, 3, 10), 60);
            BOOK.due("another leg", x.fit(0, 2, 10), 20);
        });
        BOOK.test("Throws `IndexOutOfBoundsException` if there is no such customer, or the customer has no such leg",
                () -> {
            for (int customer : Workshops.outside(2)) {
                BOOK.refused("customer " + customer, OUTSIDE, Workshops::withCustomers, x -> x.fit(customer, 0, 30));
            }
            BOOK.refused("none at all", OUTSIDE, TailorWorkshop::new, x -> x.fit(0, 0, 30));
            for (int leg : Workshops.outside(2)) {
                BOOK.refused("leg " + leg, OUTSIDE, Workshops::withCustomers, x -> x.fit(0, leg, 30));
            }
            for (int leg : Workshops.outside(16)) {
                BOOK.refused("leg " + leg, OUTSIDE, Workshops::withCustomers, x -> x.fit(1, leg, 30));
            }
        });
        BOOK.test("Throws `IllegalArgumentException` if the length is not between 10 and 60", () -> {
            for (int length : Workshops.notBetween(10, 60)) {
                BOOK.refused("length " + length, ARGUMENT, Workshops::withSuit, x -> x.fit(0, 3, length));
            }
            BOOK.due("the least", Workshops.withSuit().fit(0, 3, 10), 20);
            BOOK.due("the most", Workshops.withSuit().fit(0, 3, 60), 20);
        });
    }

    private static void orderSuit() {
        BOOK.promise(5);
        BOOK.test("Orders a suit.", () -> {
            TailorWorkshop x = Workshops.withCustomers();
            x.orderSuit(1, 0);
            x.orderSuit(0, 3);
            BOOK.due(Views.room(x), "stocks 0 0 0 0 totals 0 0 0 0 0\ncustomer 0: 20 20\ncustomer 1:"
                    + " 20".repeat(16) + "\nsuit 0 of 0 for 1:" + " p".repeat(16)
                    + " demands 0 order 0,1,2,3,4,5,6,7,8,9,10,11,12,13,14,15"
                    + "\nsuit 1 of 3 for 0: p p demands 0 order 0,1");
        });
        BOOK.test("Returns the id of the suit.", () -> {
            TailorWorkshop x = Workshops.withCustomers();
            for (int i = 0; i < 6; i++) {
                BOOK.due(x.orderSuit(0, i % 4), i);
            }
            x.scrap(5);
            BOOK.due("an id is not given again", x.orderSuit(0, 2), 6);
        });
        BOOK.test("Throws `IndexOutOfBoundsException` if there is no such customer or no such cloth", () -> {
            for (int customer : Workshops.outside(2)) {
                BOOK.refused("customer " + customer, OUTSIDE, Workshops::withCustomers, x -> x.orderSuit(customer, 0));
            }
            BOOK.refused("none at all", OUTSIDE, TailorWorkshop::new, x -> x.orderSuit(0, 0));
            for (int cloth : Workshops.outside(4)) {
                BOOK.refused("cloth " + cloth, OUTSIDE, Workshops::withCustomers, x -> x.orderSuit(1, cloth));
            }
            BOOK.due("the last of each", Workshops.withCustomers().orderSuit(1, 3), 0);
        });
        BOOK.test("Throws `IllegalStateException` if there are 6 suits", () -> {
            BOOK.refused(STATE, ChangesTest::withSixSuits, x -> x.orderSuit(0, 0));
            BOOK.refused(STATE, ChangesTest::withSixSuits, x -> x.orderSuit(0, 3));
            TailorWorkshop x = withSixSuits();
            x.scrap(3);
            BOOK.due("there are 5", x.orderSuit(0, 0), 6);
            BOOK.due("there are 6 again", Checks.thrownBy(() -> x.orderSuit(0, 0)), "IllegalStateException");
        });
    }

    private static TailorWorkshop withSixSuits() {
        TailorWorkshop x = Workshops.withSuit();
        for (int i = 1; i < 6; i++) {
            x.orderSuit(0, 0);
        }
        return x;
    }

    private interface SleeveCall {
        Object on(TailorWorkshop x, int suit, int sleeve);
    }

    private static void noSuch(SleeveCall call) {
        BOOK.test("Throws `NoSuchElementException` if there is no such suit", () -> {
            for (int suit : Workshops.outside(1)) {
                BOOK.refused("suit " + suit, MISSING, Workshops::withSewnSuit, x -> call.on(x, suit, 1));
            }
            for (int suit : new int[] {2, 5, 6}) {
                BOOK.refused("suit " + suit, MISSING, Workshops::withGoneSuits, x -> call.on(x, suit, 1));
            }
            BOOK.refused("none at all", MISSING, TailorWorkshop::new, x -> call.on(x, 0, 0));
        });
        BOOK.test("Throws `IndexOutOfBoundsException` if the suit has no such sleeve", () -> {
            for (int sleeve : Workshops.outside(4)) {
                BOOK.refused("sleeve " + sleeve, OUTSIDE, Workshops::withSuit, x -> call.on(x, 0, sleeve));
                BOOK.refused("sleeve " + sleeve, OUTSIDE, Workshops::withSewnSuit, x -> call.on(x, 0, sleeve));
            }
            for (int sleeve : Workshops.outside(16)) {
                BOOK.refused("sleeve " + sleeve, OUTSIDE, () -> Workshops.withSuit(8, 20), x -> call.on(x, 0, sleeve));
            }
        });
    }

    /** The legs are 20, 23, 20, 20 long, and the cloth 2 is just what the first two sleeves need. */
    private static TailorWorkshop withShortCloth(int centimetres) {
        TailorWorkshop x = new TailorWorkshop();
        x.buyCloth(0, 999);
        x.buyCloth(2, centimetres);
        x.addCustomer(2, 20);
        x.fit(0, 1, 23);
        x.orderSuit(0, 2);
        x.cut(0, 0);
        return x;
    }

    private static void cut() {
        BOOK.promise(6);
        BOOK.test("Cuts a planned sleeve.", () -> {
            TailorWorkshop x = withShortCloth(90);
            x.cut(0, 3);
            x.cut(0, 1);
            x.renderSuit(0);
            BOOK.due(Views.output(x), "20c 23c|. 20c");
        });
        BOOK.test("Returns the stock of the cloth that is left.", () -> {
            TailorWorkshop x = withShortCloth(90);
            BOOK.due(x.cut(0, 1), 90 - 22 - 25);
            BOOK.due(x.cut(0, 2), 90 - 22 - 25 - 22);
            BOOK.due(x.stock(2), 90 - 22 - 25 - 22);
            BOOK.due("another cloth", x.stock(0), 999);
            BOOK.due("none is left", withShortCloth(47).cut(0, 1), 0);
        });
        noSuch(TailorWorkshop::cut);
        cutRefused();
    }

    private static void cutRefused() {
        BOOK.test("Throws `IllegalStateException` if the sleeve is not planned", () -> {
            BOOK.refused("cut", STATE, () -> withShortCloth(90), x -> x.cut(0, 0));
            BOOK.refused("sewn", STATE, Workshops::withSewnSuit, x -> x.cut(0, 3));
            TailorWorkshop x = withShortCloth(90);
            x.unpick(0, 0);
            BOOK.due("planned again", x.cut(0, 0), 90 - 22 - 22);
        });
        BOOK.test("Throws `UnsupportedOperationException` if the stock is too small", () -> {
            BOOK.refused("1 too small", UNSUPPORTED, () -> withShortCloth(46), x -> x.cut(0, 1));
            BOOK.refused("as long as the leg", UNSUPPORTED, () -> withShortCloth(45), x -> x.cut(0, 1));
            BOOK.refused("empty", UNSUPPORTED, () -> withShortCloth(22), x -> x.cut(0, 1));
            BOOK.due("just enough", withShortCloth(47).cut(0, 1), 0);
            BOOK.due("1 too small for another one", withShortCloth(46).cut(0, 2), 2);
        });
    }

    /** As withSuit, with the demands 3 before 0 and 2 before 0; the sleeves 0 and 3 are cut. */
    private static TailorWorkshop withHeldSleeve() {
        TailorWorkshop x = Workshops.withSuit();
        x.demand(0, 3, 0);
        x.demand(0, 2, 0);
        x.cut(0, 0);
        x.cut(0, 3);
        return x;
    }

    private static void sew() {
        BOOK.promise(7);
        BOOK.test("Sews a cut sleeve.", () -> {
            TailorWorkshop x = withHeldSleeve();
            x.fit(0, 3, 50);
            x.sew(0, 3);
            x.renderSuit(0);
            BOOK.due("with the length that it was cut to", Views.output(x), "20c .|. 20s");
        });
        BOOK.test("Returns the number of sewn sleeves of the suit.", () -> {
            TailorWorkshop x = withHeldSleeve();
            x.orderSuit(0, 0);
            x.cut(0, 1);
            x.cut(0, 2);
            BOOK.due(x.sew(0, 3), 1);
            BOOK.due(x.sew(0, 2), 2);
            BOOK.due(x.sew(0, 0), 3);
            BOOK.due(x.sew(0, 1), 4);
            x.cut(1, 1);
            BOOK.due("another suit", x.sew(1, 1), 1);
        });
        noSuch(TailorWorkshop::sew);
        sewRefused();
    }

    private static void sewRefused() {
        BOOK.test("Throws `IllegalStateException` if the sleeve is not cut", () -> {
            BOOK.refused("planned", STATE, ChangesTest::withHeldSleeve, x -> x.sew(0, 1));
            BOOK.refused("sewn", STATE, Workshops::withSewnSuit, x -> x.sew(0, 1));
            TailorWorkshop x = Workshops.withSewnSuit();
            x.unpick(0, 1);
            BOOK.due("planned again", Checks.thrownBy(() -> x.sew(0, 1)), "IllegalStateException");
        });
        BOOK.test("Throws `UnsupportedOperationException` if a sleeve that must be sewn before is not sewn", () -> {
            BOOK.refused("one is cut, one planned", UNSUPPORTED, ChangesTest::withHeldSleeve, x -> x.sew(0, 0));
            BOOK.refused("one is sewn, one planned", UNSUPPORTED, () -> {
                TailorWorkshop x = withHeldSleeve();
                x.sew(0, 3);
                return x;
            }, x -> x.sew(0, 0));
            BOOK.refused("one is sewn, one cut", UNSUPPORTED, () -> {
                TailorWorkshop x = withHeldSleeve();
                x.sew(0, 3);
                x.cut(0, 2);
                return x;
            }, x -> x.sew(0, 0));
            BOOK.refused("by way of another one", UNSUPPORTED, () -> {
                TailorWorkshop x = withHeldSleeve();
                x.demand(0, 0, 1);
                x.cut(0, 1);
                return x;
            }, x -> x.sew(0, 1));
            TailorWorkshop x = withHeldSleeve();
            x.cut(0, 2);
            x.sew(0, 3);
            x.sew(0, 2);
            BOOK.due("both are sewn", x.sew(0, 0), 3);
            for (int pair = 0; pair < 16 * 16; pair++) {
                int first = pair / 16;
                int second = pair % 16;
                TailorWorkshop y = Workshops.withSuit(8, 20);
                if (first != second) {
                    y.demand(0, first, second);
                    y.cut(0, second);
                    BOOK.due(first + " before " + second, Checks.thrownBy(() -> y.sew(0, second)),
                            "UnsupportedOperationException");
                    BOOK.due("what stands", y.sleeveState(0, second), 'c');
                }
            }
        });
    }

    /** As withSuit, with the demands 1 before 2 and 2 before 3; the sleeves 0 to 2 are sewn; the leg 2 is 30 now. */
    private static TailorWorkshop withSewnChain() {
        TailorWorkshop x = Workshops.withSuit();
        x.demand(0, 1, 2);
        x.demand(0, 2, 3);
        Workshops.cutAndSew(x, 0, 0, 1, 2);
        x.fit(0, 2, 30);
        return x;
    }

    private static void unpick() {
        BOOK.promise(8);
        BOOK.test("Unpicks a cut or sewn sleeve.", () -> {
            TailorWorkshop x = withSewnChain();
            x.cut(0, 3);
            x.unpick(0, 2);
            x.unpick(0, 3);
            x.renderSuit(0);
            BOOK.due(Views.output(x), "20s 20s|. .");
            BOOK.due("the demands stay", x.demandCount(0), 2);
        });
        BOOK.test("Returns the centimetres that become waste, which are the length of the sleeve plus 2.", () -> {
            TailorWorkshop x = withSewnChain();
            BOOK.due("a sewn one, its length when it was cut", x.unpick(0, 2), 22);
            x.cut(0, 2);
            x.fit(0, 2, 10);
            BOOK.due("a cut one", x.unpick(0, 2), 32);
            x.cut(0, 2);
            BOOK.due("the shortest", x.unpick(0, 2), 12);
            x.fit(0, 2, 60);
            x.cut(0, 2);
            BOOK.due("the longest", x.unpick(0, 2), 62);
            BOOK.due(x.wasteTotal(), 22 + 32 + 12 + 62);
            BOOK.due("no stock", x.stock(0), 999 - 44 - 22 - 32 - 12 - 62);
        });
        noSuch(TailorWorkshop::unpick);
        unpickRefused();
    }

    private static void unpickRefused() {
        BOOK.test("Throws `IllegalStateException` if the sleeve is planned", () -> {
            BOOK.refused("never cut", STATE, ChangesTest::withSewnChain, x -> x.unpick(0, 3));
            BOOK.refused("unpicked", STATE, () -> {
                TailorWorkshop x = withSewnChain();
                x.unpick(0, 0);
                return x;
            }, x -> x.unpick(0, 0));
        });
        BOOK.test("Throws `UnsupportedOperationException` if a sleeve that must be sewn after it is sewn", () -> {
            BOOK.refused(UNSUPPORTED, ChangesTest::withSewnChain, x -> x.unpick(0, 1));
            BOOK.refused("by way of another one", UNSUPPORTED, () -> {
                TailorWorkshop x = withSewnChain();
                Workshops.cutAndSew(x, 0, 3);
                return x;
            }, x -> x.unpick(0, 1));
            TailorWorkshop x = withSewnChain();
            x.cut(0, 3);
            BOOK.due("the one after it is cut", x.unpick(0, 2), 22);
            BOOK.due("the one after it is planned", x.unpick(0, 1), 22);
            BOOK.due("without a demand", x.unpick(0, 0), 22);
            for (int pair = 0; pair < 16 * 16; pair++) {
                int first = pair / 16;
                int second = pair % 16;
                TailorWorkshop y = Workshops.withSuit(8, 20);
                if (first != second) {
                    y.demand(0, first, second);
                    Workshops.cutAndSew(y, 0, first, second);
                    BOOK.due(second + " after " + first, Checks.thrownBy(() -> y.unpick(0, first)),
                            "UnsupportedOperationException");
                    BOOK.due("what stands", y.sleeveState(0, first), 's');
                }
            }
        });
    }

    /** The suit 0 has so many demands, each with the sleeve 15. */
    private static TailorWorkshop withDemands(int count) {
        TailorWorkshop x = Workshops.withSuit(8, 20);
        for (int i = 0; i < count; i++) {
            x.demand(0, i, 15);
        }
        return x;
    }

    private static TailorWorkshop withChain(int... sleeves) {
        TailorWorkshop x = Workshops.withSuit(8, 20);
        for (int i = 1; i < sleeves.length; i++) {
            x.demand(0, sleeves[i - 1], sleeves[i]);
        }
        return x;
    }

    private static void demand() {
        BOOK.promise(9);
        BOOK.test("Adds a demand to a suit.", () -> {
            TailorWorkshop x = Workshops.withSuit();
            x.orderSuit(0, 0);
            x.demand(0, 0, 1);
            x.demand(0, 1, 2);
            BOOK.due(x.isBefore(0, 0, 1) + " " + x.isBefore(0, 1, 0) + " " + x.isBefore(1, 0, 1), "true false false");
        });
        BOOK.test("Returns the number of demands of the suit.", () -> {
            TailorWorkshop x = withDemands(0);
            x.orderSuit(0, 0);
            for (int i = 0; i < 12; i++) {
                BOOK.due(x.demand(0, i, 15), i + 1);
            }
            BOOK.due("another suit", x.demand(1, 15, 0), 1);
            BOOK.due("what follows from others is one of its own", withChain(0, 1, 2).demand(0, 0, 2), 3);
        });
        BOOK.test("Throws `NoSuchElementException` if there is no such suit", () -> {
            for (int suit : Workshops.outside(1)) {
                BOOK.refused("suit " + suit, MISSING, Workshops::withSuit, x -> x.demand(suit, 0, 1));
            }
            for (int suit : new int[] {2, 5, 6}) {
                BOOK.refused("suit " + suit, MISSING, Workshops::withGoneSuits, x -> x.demand(suit, 0, 1));
            }
            BOOK.refused("none at all", MISSING, TailorWorkshop::new, x -> x.demand(0, 0, 1));
        });
        BOOK.test("Throws `IndexOutOfBoundsException` if the suit has no such sleeve, for either argument", () -> {
            for (int sleeve : Workshops.outside(4)) {
                BOOK.refused("first " + sleeve, OUTSIDE, Workshops::withSuit, x -> x.demand(0, sleeve, 0));
                BOOK.refused("second " + sleeve, OUTSIDE, Workshops::withSuit, x -> x.demand(0, 0, sleeve));
                BOOK.refused("other " + sleeve, OUTSIDE, Workshops::withSuit, x -> x.demand(0, sleeve, 4));
            }
            for (int sleeve : Workshops.outside(16)) {
                BOOK.refused("first " + sleeve, OUTSIDE, () -> withDemands(1), x -> x.demand(0, sleeve, 1));
                BOOK.refused("second " + sleeve, OUTSIDE, () -> withDemands(1), x -> x.demand(0, 1, sleeve));
            }
        });
        demandRefused();
        demandInAWrongState();
    }

    private static void demandRefused() {
        BOOK.test("Throws `IllegalArgumentException` if both are the same", () -> {
            for (int sleeve = 0; sleeve < 4; sleeve++) {
                int same = sleeve;
                BOOK.refused("sleeve " + same, ARGUMENT, Workshops::withSuit, x -> x.demand(0, same, same));
                BOOK.refused("sewn " + same, ARGUMENT, Workshops::withSewnSuit, x -> x.demand(0, same, same));
            }
            BOOK.refused(ARGUMENT, () -> withChain(0, 1, 2), x -> x.demand(0, 1, 1));
        });
        BOOK.test("Throws `UnsupportedOperationException` if the demands would form a cycle", () -> {
            BOOK.refused("of two", UNSUPPORTED, () -> withChain(0, 1), x -> x.demand(0, 1, 0));
            BOOK.refused("of three", UNSUPPORTED, () -> withChain(2, 0, 1), x -> x.demand(0, 1, 2));
            BOOK.refused("of twelve, the most", UNSUPPORTED, () -> withChain(4, 15, 3, 14, 2, 13, 1, 12, 0, 11, 10, 9),
                    x -> x.demand(0, 9, 4));
            BOOK.refused("of two that are sewn", UNSUPPORTED, ChangesTest::withSewnChain, x -> x.demand(0, 2, 1));
            BOOK.refused("of three that are sewn", UNSUPPORTED, () -> {
                TailorWorkshop x = withChain(2, 0, 1);
                Workshops.cutAndSew(x, 0, 2, 0, 1);
                return x;
            }, x -> x.demand(0, 1, 2));
            BOOK.due("the same way", withChain(2, 0, 1).demand(0, 2, 1), 3);
            BOOK.due("two ways to one sleeve", withChain(2, 0, 1).demand(0, 3, 1), 3);
        });
    }

    private static void demandInAWrongState() {
        BOOK.test("Throws `IllegalStateException` if the suit has this demand or 12 demands, or the second sleeve is"
                + " sewn while the first one is not", () -> {
            BOOK.refused("this one", STATE, () -> withChain(0, 1, 2), x -> x.demand(0, 0, 1));
            BOOK.refused("this one, the latest", STATE, () -> withChain(0, 1, 2), x -> x.demand(0, 1, 2));
            BOOK.refused("this one, both are sewn", STATE, ChangesTest::withSewnChain, x -> x.demand(0, 1, 2));
            BOOK.refused("12", STATE, () -> withDemands(12), x -> x.demand(0, 12, 15));
            BOOK.refused("12 and this one", STATE, () -> withDemands(12), x -> x.demand(0, 11, 15));
            BOOK.due("11", withDemands(11).demand(0, 11, 15), 12);
            BOOK.refused("the first is planned", STATE, ChangesTest::withSewnChain, x -> x.demand(0, 3, 0));
            BOOK.refused("the first is cut", STATE, () -> {
                TailorWorkshop x = withSewnChain();
                x.cut(0, 3);
                return x;
            }, x -> x.demand(0, 3, 0));
            BOOK.due("both are sewn", withSewnChain().demand(0, 0, 1), 3);
            BOOK.due("the first alone is sewn", withSewnChain().demand(0, 0, 3), 3);
            TailorWorkshop x = Workshops.withSuit();
            x.cut(0, 0);
            BOOK.due("the second is cut, the first planned", x.demand(0, 1, 0), 1);
            BOOK.due("neither is cut", x.demand(0, 2, 3), 2);
        });
    }

    /** Two suits of one pair: 20 and 21 long, sewn, with one demand; the other one is planned. */
    private static TailorWorkshop withFinishedSuit() {
        TailorWorkshop x = Workshops.withSuit(1, 20);
        x.orderSuit(0, 1);
        x.fit(0, 1, 21);
        x.demand(0, 0, 1);
        Workshops.cutAndSew(x, 0, 0, 1);
        return x;
    }

    private static void deliver() {
        BOOK.promise(10);
        BOOK.test("Delivers a suit.", () -> {
            TailorWorkshop x = withFinishedSuit();
            x.deliver(0);
            BOOK.due(Views.room(x), "stocks 954 0 0 0 totals 999 0 45 44 1\ncustomer 0: 20 21\n"
                    + "suit 1 of 1 for 0: p p demands 0 order 0,1");
        });
        BOOK.test("Returns the price.", () -> {
            BOOK.due(withFinishedSuit().deliver(0), 20 + 21 + 3);
            BOOK.due("without a demand", Workshops.withSewnSuit(2, 20).deliver(0), 80);
            BOOK.due("the most legs", Workshops.withSewnSuit(8, 60).deliver(0), 960);
        });
        BOOK.test("Throws `NoSuchElementException` if there is no such suit", () -> {
            for (int suit : Workshops.outside(2)) {
                BOOK.refused("suit " + suit, MISSING, ChangesTest::withFinishedSuit, x -> x.deliver(suit));
            }
            BOOK.refused("delivered", MISSING, () -> {
                TailorWorkshop x = withFinishedSuit();
                x.deliver(0);
                return x;
            }, x -> x.deliver(0));
            BOOK.refused("none at all", MISSING, TailorWorkshop::new, x -> x.deliver(0));
        });
        BOOK.test("Throws `IllegalStateException` if it cannot be delivered", ChangesTest::deliverRefused);
    }

    private static void deliverRefused() {
        BOOK.refused("all are planned", STATE, ChangesTest::withFinishedSuit, x -> x.deliver(1));
        for (int sleeve = 0; sleeve < 4; sleeve++) {
            int one = sleeve;
            BOOK.refused("one is planned", STATE, () -> {
                TailorWorkshop x = Workshops.withSewnSuit();
                x.unpick(0, one);
                return x;
            }, x -> x.deliver(0));
            BOOK.refused("one is cut", STATE, () -> {
                TailorWorkshop x = Workshops.withSewnSuit();
                x.unpick(0, one);
                x.cut(0, one);
                return x;
            }, x -> x.deliver(0));
            BOOK.refused("one does not fit", STATE, () -> {
                TailorWorkshop x = Workshops.withSewnSuit();
                x.fit(0, one, 21);
                return x;
            }, x -> x.deliver(0));
            BOOK.refused("one is 2 longer than its mirror", STATE, () -> {
                TailorWorkshop x = Workshops.withSewnSuit();
                Workshops.refit(x, 0, one, 22);
                return x;
            }, x -> x.deliver(0));
            TailorWorkshop x = Workshops.withSewnSuit();
            Workshops.refit(x, 0, one, 21);
            BOOK.due("one is 1 longer than its mirror", x.deliver(0), 81);
        }
    }

    /** The suit 1 has a cut sleeve of 20 and a sewn one of 30, whose leg is 10 now, and two planned ones. */
    private static TailorWorkshop withHalfSuit() {
        TailorWorkshop x = Workshops.withSuit();
        x.orderSuit(0, 0);
        x.orderSuit(0, 1);
        x.cut(1, 0);
        x.fit(0, 1, 30);
        Workshops.cutAndSew(x, 1, 1);
        x.fit(0, 1, 10);
        return x;
    }

    private static void scrap() {
        BOOK.promise(11);
        BOOK.test("Scraps a suit.", () -> {
            TailorWorkshop x = withHalfSuit();
            x.scrap(1);
            BOOK.due(x.suitCount() + ": " + x.suitAt(0) + ", " + x.suitAt(1), "2: 0, 2");
            BOOK.due("a later one is planned anew", x.orderSuit(0, 0), 3);
            x.renderSuit(3);
            BOOK.due(Views.output(x), ". .|. .");
        });
        BOOK.test("The cloth of its cut and sewn sleeves becomes waste.", () -> {
            TailorWorkshop x = withHalfSuit();
            x.scrap(1);
            BOOK.due("stock, waste, delivered", x.stock(0) + ", " + x.wasteTotal() + ", " + x.deliveredTotal(),
                    999 - 54 + ", 54, 0");
            x.scrap(0);
            BOOK.due("none of planned ones", x.wasteTotal(), 54);
        });
        BOOK.test("Returns the centimetres that become waste, which are the lengths of these sleeves plus 2 for each.",
                () -> {
            BOOK.due(withHalfSuit().scrap(1), 22 + 32);
            BOOK.due("nothing is cut", withHalfSuit().scrap(0), 0);
            BOOK.due("the most legs", Workshops.withSewnSuit(8, 60).scrap(0), 16 * 62);
        });
        BOOK.test("Throws `NoSuchElementException` if there is no such suit", () -> {
            for (int suit : Workshops.outside(3)) {
                BOOK.refused("suit " + suit, MISSING, ChangesTest::withHalfSuit, x -> x.scrap(suit));
            }
            for (int suit : new int[] {2, 5, 6}) {
                BOOK.refused("suit " + suit, MISSING, Workshops::withGoneSuits, x -> x.scrap(suit));
            }
            BOOK.refused("none at all", MISSING, TailorWorkshop::new, x -> x.scrap(0));
        });
    }
}

import java.util.NoSuchElementException;

/** The document's heading "Terms", and for how many calls an object is used. */
public final class TermsTest {
    private static final Book BOOK = new Book();
    private static final Class<NoSuchElementException> MISSING = NoSuchElementException.class;
    private static final Class<IndexOutOfBoundsException> OUTSIDE = IndexOutOfBoundsException.class;
    private static final Class<IllegalArgumentException> ARGUMENT = IllegalArgumentException.class;
    private static final Class<IllegalStateException> STATE = IllegalStateException.class;
    private static final Class<UnsupportedOperationException> UNSUPPORTED = UnsupportedOperationException.class;

    private TermsTest() {
    }

    public static void main(String[] arguments) {
        lifeOfAnObject();
        BOOK.open("Terms");
        nothingToTest();
        cloths();
        customers();
        suits();
        idsOfSuits();
        sleeves();
        goneSuits();
        SewingTerms.tell(BOOK);
        DeliveryTerms.tell(BOOK);
        ScriptTerms.tell(BOOK);
        ChangeTerms.tell(BOOK);
        RefusalTerms.tell(BOOK);
        BOOK.end();
    }

    private static void lifeOfAnObject() {
        BOOK.open("What it is");
        BOOK.nothingToTest("A workshop that tailors suits for customers with many legs: cloth is cut into pieces,"
                + " pieces are sewn in an order that patterns demand, fittings change measures, and legs of the left"
                + " and the right side must mirror each other.", "the other sentences say what that means");
        BOOK.test("An object is used for at most 512 calls after it has been made; what later calls answer is free.",
                () -> {
            TailorWorkshop x = new TailorWorkshop();
            x.addCustomer(8, 60);
            for (int call = 2; call <= 504; call++) {
                BOOK.due("call " + call, call % 3 == 0 ? x.save() : x.fit(0, call % 16, 10 + call % 51), answer(call));
            }
            for (int left = 7; left >= 0; left--) {
                BOOK.due("call " + (512 - left), x.undo(), left);
            }
        });
    }

    /** No suit is there, and a leg's previous length is that of the latest fitting of it, if there was one. */
    private static int answer(int call) {
        if (call % 3 == 0) {
            return 0;
        }
        for (int earlier = call - 16; earlier >= 2; earlier -= 16) {
            if (earlier % 3 != 0) {
                return 10 + earlier % 51;
            }
        }
        return 60;
    }

    private static void nothingToTest() {
        BOOK.nothingToTest("The class finds sewing orders and cloth lengths in two ways each and offers predictions,"
                + " rankings, a small command language, undo and a snapshot.", "the promises say which");
        BOOK.nothingToTest("It is not thread-safe.", "it promises nothing");
        BOOK.nothingToTest("All integer divisions round down.", "no answer is a quotient of integers");
        String changes = "`buyCloth`, `addCustomer`, `fit`, `orderSuit`, `cut`, `sew`, `unpick`, `demand`, `deliver`,"
                + " `scrap`";
        String customers = "`stock`, `customerCount`, `pairs`, `legLength`, `mirrorLeg`, `isMirrored`,"
                + " `customerByLegs`";
        String suits = "`suitCount`, `suitAt`, `customerOf`, `clothOf`, `sleeveState`, `sleeveLength`, `doesFit`,"
                + " `sewnSleeves`, `demandCount`, `isBefore`, `canDeliver`, `price`, `sleevesLeft`, `sewingOrder`,"
                + " `sewingOrderByQueue`, `rounds`, `clothNeeded`, `clothNeededByDifference`";
        String totals = "`boughtTotal`, `wasteTotal`, `deliveredTotal`, `income`, `deliveredSuits`, `meanLeg`,"
                + " `wasteShare`, `isConsistent`";
        String output = "`renderSuit`, `renderOrder`, `outputAt`, `type`, `runScript`, `errorPosition`,"
                + " `failedCommand`, `undo`, `save`, `restore`";
        String[] groups = {changes, "changes", customers, "cloths and customers", suits, "suits", totals,
            "totals and checks", output, "output and scripts"};
        for (int i = 0; i < groups.length; i += 2) {
            BOOK.nothingToTest("Ahead of the calls " + groups[i] + " the interface says: " + groups[i + 1] + ".",
                    "a heading of the interface");
        }
    }

    private static void cloths() {
        BOOK.test("There are the cloths 0 to 3, each with a stock of centimetres, initially 0, and at most 2000.",
                () -> {
            for (int cloth = 0; cloth < 4; cloth++) {
                int same = cloth;
                BOOK.due("initially", new TailorWorkshop().stock(cloth), 0);
                BOOK.due("bought", new TailorWorkshop().buyCloth(cloth, 7), 7);
                BOOK.refused("full", UNSUPPORTED, TermsTest::withFullStocks, x -> x.buyCloth(same, 1));
                BOOK.due("full", withFullStocks().stock(cloth), 2000);
            }
            for (int cloth : Workshops.outside(4)) {
                BOOK.refused("none " + cloth, OUTSIDE, TermsTest::withFullStocks, x -> x.stock(cloth));
                BOOK.refused("none " + cloth, OUTSIDE, TermsTest::withFullStocks, x -> x.buyCloth(cloth, 1));
                BOOK.refused("none " + cloth, OUTSIDE, Workshops::withCustomers, x -> x.orderSuit(0, cloth));
            }
        });
    }

    private static TailorWorkshop withFullStocks() {
        TailorWorkshop x = new TailorWorkshop();
        for (int i = 0; i < 4; i++) {
            x.buyCloth(i, 999);
            x.buyCloth(i, 999);
            x.buyCloth(i, 2);
        }
        return x;
    }

    private static TailorWorkshop withManyCustomers(int count) {
        TailorWorkshop x = new TailorWorkshop();
        for (int i = 0; i < count; i++) {
            x.addCustomer(i + 1, 30 + i);
        }
        return x;
    }

    private static void customers() {
        BOOK.test("At most 5 customers exist; they have the indices 0 to n - 1 in the order in which they were added.",
                () -> {
            BOOK.refused(STATE, () -> withManyCustomers(5), x -> x.addCustomer(1, 20));
            for (int count = 0; count <= 5; count++) {
                int all = count;
                BOOK.due("how many", withManyCustomers(count).customerCount(), count);
                BOOK.refused("n", OUTSIDE, () -> withManyCustomers(all), x -> x.pairs(all));
                BOOK.refused("-1", OUTSIDE, () -> withManyCustomers(all), x -> x.pairs(-1));
                for (int i = 0; i < count; i++) {
                    BOOK.due("of " + count + " the one at " + i, withManyCustomers(count).legLength(i, 0), 30 + i);
                }
            }
        });
        BOOK.test("A customer has a number of leg pairs from 1 to 8, and for each pair two legs, a left one and a"
                + " right one, each with a length from 10 to 60 centimetres.", () -> {
            for (int pairs = 0; pairs <= 9; pairs++) {
                for (int length = 9; length <= 61; length++) {
                    customer(pairs, length, pairs >= 1 && pairs <= 8 && length >= 10 && length <= 60);
                }
            }
            for (int length : new int[] {9, 61}) {
                BOOK.refused("a fitting to " + length, ARGUMENT, Workshops::withCustomers, x -> x.fit(1, 15, length));
            }
            for (int length : new int[] {10, 60}) {
                BOOK.due("a fitting to " + length, Workshops.withCustomers().fit(1, 15, length), 20);
            }
        });
        BOOK.test("The legs are numbered from 0 to 2 * p - 1, where p is the number of pairs; the leg 2 * i is the"
                + " left one and the leg 2 * i + 1 the right one of the pair i, which are mirror legs of each other.",
                TermsTest::legs);
    }

    private static void customer(int pairs, int length, boolean isPossible) {
        TailorWorkshop x = new TailorWorkshop();
        String what = pairs + " pairs of " + length;
        BOOK.due(what, Checks.thrownBy(() -> x.addCustomer(pairs, length)),
                isPossible ? "answer 0" : "IllegalArgumentException");
        BOOK.due(what + ", how many there are", x.customerCount(), isPossible ? 1 : 0);
    }

    private static TailorWorkshop withPairs(int pairs) {
        TailorWorkshop x = new TailorWorkshop();
        x.addCustomer(pairs, 20);
        x.orderSuit(0, 0);
        return x;
    }

    private static void legs() {
        for (int pairs = 1; pairs <= 8; pairs++) {
            int legs = 2 * pairs;
            TailorWorkshop x = withPairs(pairs);
            for (int left = 0; left < legs; left += 2) {
                BOOK.due("the left one's mirror leg", x.mirrorLeg(0, left), left + 1);
                BOOK.due("the right one's mirror leg", x.mirrorLeg(0, left + 1), left);
                x.fit(0, left, 30);
                BOOK.due("the left one longer", x.isMirrored(0), false);
                x.fit(0, left + 1, 30);
                BOOK.due("both longer", x.isMirrored(0), true);
            }
            for (int leg : new int[] {-1, legs}) {
                BOOK.refused("of " + legs + " the leg " + leg, OUTSIDE, () -> withPairs(legs / 2),
                        y -> y.legLength(0, leg));
                BOOK.refused("of " + legs + " the mirror leg of " + leg, OUTSIDE, () -> withPairs(legs / 2),
                        y -> y.mirrorLeg(0, leg));
                BOOK.refused("of " + legs + " a fitting of " + leg, OUTSIDE, () -> withPairs(legs / 2),
                        y -> y.fit(0, leg, 20));
            }
        }
    }

    private static TailorWorkshop withSuits(int count) {
        TailorWorkshop x = Workshops.withCustomers();
        for (int i = 0; i < count; i++) {
            x.orderSuit(i % 2, i % 4);
        }
        return x;
    }

    private static void suits() {
        BOOK.test("At most 6 suits exist at a time.", () -> {
            BOOK.refused("of either customer", STATE, () -> withSuits(6), x -> x.orderSuit(0, 0));
            BOOK.refused("of either customer", STATE, () -> withSuits(6), x -> x.orderSuit(1, 3));
            BOOK.due("the sixth", withSuits(5).orderSuit(1, 3), 5);
            TailorWorkshop x = withSuits(6);
            for (int i = 0; i < 10; i++) {
                x.scrap(i);
                BOOK.due("one is gone, one more can be", x.orderSuit(0, 0), 6 + i);
                BOOK.due("no two", Checks.thrownBy(() -> x.orderSuit(0, 0)), "IllegalStateException");
            }
            BOOK.due("still", x.suitCount(), 6);
        });
        BOOK.test("A suit is for a customer and of a cloth.", () -> {
            TailorWorkshop x = withSuits(6);
            for (int i = 0; i < 6; i++) {
                BOOK.due("the suit " + i, x.customerOf(i) + " " + x.clothOf(i), i % 2 + " " + i % 4);
            }
        });
    }

    private static void idsOfSuits() {
        BOOK.test("Each suit gets an id; the first one has the id 0, and each further one has the id of the one"
                + " before plus 1.", () -> {
            TailorWorkshop x = Workshops.withSuit(1, 20);
            BOOK.due("the first", x.suitAt(0), 0);
            Workshops.cutAndSew(x, 0, 0, 1);
            x.deliver(0);
            BOOK.due("the one before is delivered", x.orderSuit(0, 0), 1);
            x.scrap(1);
            BOOK.due("the one before is scrapped", x.orderSuit(0, 0), 2);
            BOOK.due("the one before is there", x.orderSuit(0, 0), 3);
            Checks.thrownBy(() -> x.orderSuit(1, 0));
            BOOK.due("the one before was refused", x.orderSuit(0, 0), 4);
            x.undo();
            BOOK.due("the one before is undone", x.orderSuit(0, 0), 4);
            for (int id = 5; id < 200; id++) {
                x.scrap(id - 1);
                BOOK.due("one after the other", x.orderSuit(0, 0), id);
            }
            BOOK.due("the last", x.sleevesLeft(199), 2);
        });
    }

    private static void sleeves() {
        BOOK.test("It has a sleeve for each leg of the customer, which is planned, cut or sewn, initially planned.",
                () -> {
            for (int pairs = 1; pairs <= 8; pairs++) {
                int legs = 2 * pairs;
                TailorWorkshop x = withPairs(pairs);
                x.renderSuit(0);
                BOOK.due(legs + " sleeves", Views.output(x), ". .|".repeat(pairs - 1) + ". .");
                for (int sleeve : new int[] {-1, legs}) {
                    BOOK.refused("of " + legs + " the sleeve " + sleeve, OUTSIDE, () -> withPairs(legs / 2),
                            y -> y.sleeveState(0, sleeve));
                    BOOK.refused("of " + legs + " cutting " + sleeve, OUTSIDE, () -> withPairs(legs / 2),
                            y -> y.cut(0, sleeve));
                }
            }
            TailorWorkshop x = Workshops.withSuit();
            for (int id = 1; id < 15; id++) {
                x.demand(id - 1, 1, 0);
                Workshops.cutAndSew(x, id - 1, 1);
                x.scrap(id - 1);
                for (int i = 0; i < id; i++) {
                    x.fit(0, 0, 20 + i);
                }
                x.orderSuit(0, 0);
                x.renderSuit(id);
                BOOK.due("after another one is gone", Views.output(x), ". .|. .");
                BOOK.due("without demands", x.demandCount(id) + " " + x.isBefore(id, 1, 0), "0 false");
            }
        });
        BOOK.test("When a sleeve is cut, it gets the present length of its leg, and this length plus 2 centimetres is"
                + " taken from the stock of the cloth.", () -> {
            for (int length = 10; length <= 60; length++) {
                int present = length;
                TailorWorkshop x = withStockForOne(length + 2);
                x.fit(0, 1, length);
                BOOK.due("just enough for " + length, x.cut(0, 1), 0);
                BOOK.due("its length", x.sleeveLength(0, 1), length);
                BOOK.refused("1 too little for " + length, UNSUPPORTED, () -> {
                    TailorWorkshop y = withStockForOne(present + 1);
                    y.fit(0, 1, present);
                    return y;
                }, y -> y.cut(0, 1));
            }
        });
    }

    private static TailorWorkshop withStockForOne(int centimetres) {
        TailorWorkshop x = withPairs(1);
        x.buyCloth(0, centimetres);
        x.buyCloth(1, 999);
        return x;
    }

    private static void goneSuits() {
        BOOK.test("A suit that is delivered or scrapped ceases to exist.", () -> {
            for (boolean isDelivered : new boolean[] {true, false}) {
                Book.Maker maker = () -> {
                    TailorWorkshop x = Workshops.withSewnSuit();
                    x.orderSuit(0, 1);
                    BOOK.due("its price or its waste", isDelivered ? x.deliver(0) : x.scrap(0), isDelivered ? 80 : 88);
                    return x;
                };
                for (Book.Call call : Calls.ofSuit(0)) {
                    BOOK.refused("delivered " + isDelivered, MISSING, maker, call);
                }
                BOOK.due("how many there are", maker.make().suitCount(), 1);
            }
        });
    }
}

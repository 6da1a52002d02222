import java.util.NoSuchElementException;

/** Promises 52 to 54: undo and the snapshot. */
public final class HistoryTest {
    private static final Book BOOK = new Book();
    private static final Class<NoSuchElementException> MISSING = NoSuchElementException.class;
    private static final Class<IllegalStateException> STATE = IllegalStateException.class;

    private HistoryTest() {
    }

    public static void main(String[] arguments) {
        undo();
        save();
        restore();
        BOOK.end();
    }

    /** So many purchases of the cloth 0: 1, 2, 3 and so on. */
    private static TailorWorkshop withPurchases(int count) {
        TailorWorkshop x = new TailorWorkshop();
        for (int i = 1; i <= count; i++) {
            x.buyCloth(0, i);
        }
        return x;
    }

    private static TailorWorkshop withPurchases(int count, int undone) {
        TailorWorkshop x = withPurchases(count);
        for (int i = 0; i < undone; i++) {
            x.undo();
        }
        return x;
    }

    private static void undo() {
        BOOK.promise(52);
        BOOK.test("Undoes the latest change that has not been undone.", () -> {
            TailorWorkshop x = withPurchases(10);
            x.undo();
            BOOK.due("the latest", x.stock(0), 45);
            x.undo();
            BOOK.due("the one before", x.stock(0), 36);
            x.buyCloth(1, 5);
            x.undo();
            BOOK.due("a change after it", x.stock(0) + " " + x.stock(1), "36 0");
            x.undo();
            BOOK.due("what was undone does not come again", x.stock(0), 28);
            x.buyCloth(1, 5);
            x.buyCloth(1, 6);
            x.buyCloth(1, 7);
            StringBuilder text = new StringBuilder();
            for (int i = 0; i < 5; i++) {
                x.undo();
                text.append(x.stock(0)).append('/').append(x.stock(1)).append(' ');
            }
            BOOK.due("three changes after it", text.toString(), "28/11 28/5 28/0 21/0 15/0 ");
        });
        BOOK.test("Returns the number of changes that can still be undone.", () -> {
            TailorWorkshop x = withPurchases(10);
            for (int left = 7; left >= 0; left--) {
                BOOK.due("of ten", x.undo(), left);
            }
            BOOK.due("of eight", withPurchases(8).undo(), 7);
            BOOK.due("of seven", withPurchases(7).undo(), 6);
            BOOK.due("of one", withPurchases(1).undo(), 0);
            TailorWorkshop y = withPurchases(10, 3);
            y.buyCloth(1, 5);
            BOOK.due("of ten, three undone, and one more", y.undo(), 5);
            TailorWorkshop z = withPurchases(10, 8);
            z.buyCloth(1, 5);
            BOOK.due("of ten, eight undone, and one more", z.undo(), 0);
        });
        undoRefused();
    }

    private static void undoRefused() {
        BOOK.test("Throws `NoSuchElementException` if there is nothing to undo", () -> {
            BOOK.refusedAsMade("no change", MISSING, TailorWorkshop::new, x -> x.undo());
            BOOK.refusedAsMade("one, undone", MISSING, () -> withPurchases(1, 1), x -> x.undo());
            BOOK.refusedAsMade("eight, undone", MISSING, () -> withPurchases(8, 8), x -> x.undo());
            BOOK.refusedAsMade("nine, eight undone", MISSING, () -> withPurchases(9, 8), x -> x.undo());
            BOOK.refusedAsMade("a hundred, eight undone", MISSING, () -> {
                TailorWorkshop x = new TailorWorkshop();
                for (int i = 0; i < 100; i++) {
                    x.buyCloth(i % 4, 3);
                }
                for (int i = 0; i < 8; i++) {
                    x.undo();
                }
                return x;
            }, x -> x.undo());
            BOOK.refusedAsMade("one, undone after a snapshot", MISSING, () -> Workshops.dressed(new TailorWorkshop()),
                    x -> x.undo());
            BOOK.refusedAsMade("calls that are no changes", MISSING, () -> {
                TailorWorkshop x = Workshops.dressed(Workshops.withSuit());
                x.restore();
                x.save();
                return x;
            }, x -> x.undo());
        });
    }

    private static void save() {
        BOOK.promise(53);
        BOOK.test("Takes a snapshot, which replaces an earlier one.", () -> {
            TailorWorkshop x = Workshops.withSuit();
            x.save();
            x.cut(0, 0);
            String view = Views.room(x);
            x.save();
            BOOK.due("what stands is as it was", Views.room(x), view);
            x.scrap(0);
            x.restore();
            BOOK.due("the later one", Views.room(x), view);
        });
        BOOK.test("Returns the number of suits.", () -> {
            BOOK.due("none", new TailorWorkshop().save(), 0);
            TailorWorkshop x = Workshops.withSuit();
            for (int i = 1; i <= 6; i++) {
                BOOK.due(x.save(), i);
                Checks.thrownBy(() -> x.orderSuit(0, 0));
            }
            BOOK.due("the most", x.save(), 6);
            x.scrap(0);
            BOOK.due("one is gone", x.save(), 5);
        });
    }

    /** One sleeve is sewn, one cut, with a demand between them; this is the snapshot, and then much is changed. */
    private static TailorWorkshop withSnapshot() {
        TailorWorkshop x = Workshops.withSuit();
        x.demand(0, 0, 1);
        Workshops.cutAndSew(x, 0, 0);
        x.cut(0, 1);
        x.save();
        x.sew(0, 1);
        x.demand(0, 2, 3);
        x.fit(0, 3, 50);
        x.addCustomer(4, 44);
        x.orderSuit(1, 3);
        x.buyCloth(3, 70);
        x.cut(1, 7);
        x.scrap(0);
        return x;
    }

    private static final String SNAPSHOT = "stocks 955 0 0 0 totals 999 0 0 0 0\ncustomer 0: 20 20 20 20\n"
            + "suit 0 of 0 for 0: 20s 20c p p demands 1 order 1,2,3 0<1";

    private static void restore() {
        BOOK.promise(54);
        BOOK.test("Restores the snapshot, which is kept.", () -> {
            TailorWorkshop x = withSnapshot();
            x.restore();
            BOOK.due("once", Views.room(x), SNAPSHOT);
            x.demand(0, 3, 2);
            x.unpick(0, 1);
            x.fit(0, 0, 10);
            x.restore();
            BOOK.due("a second time", Views.room(x), SNAPSHOT);
            x.scrap(0);
            x.orderSuit(0, 0);
            x.cut(1, 0);
            x.restore();
            BOOK.due("a third time", Views.room(x), SNAPSHOT);
            BOOK.due("and the id of the next suit", x.orderSuit(0, 0), 1);
        });
        BOOK.test("Afterwards there is nothing to undo.", () -> {
            BOOK.refusedAsMade("after eight changes", MISSING, () -> {
                TailorWorkshop x = withSnapshot();
                x.restore();
                return x;
            }, x -> x.undo());
            TailorWorkshop x = withSnapshot();
            x.restore();
            x.buyCloth(2, 5);
            BOOK.due("a later change can be undone", x.undo(), 0);
            BOOK.due(Views.room(x), SNAPSHOT);
            for (int i = 0; i < 9; i++) {
                x.buyCloth(2, 5);
            }
            BOOK.due("eight later changes too", x.undo(), 7);
        });
        BOOK.test("Returns the number of suits.", () -> {
            BOOK.due("of the snapshot, not of what stood", withSnapshot().restore(), 1);
            TailorWorkshop x = Workshops.withCustomers();
            x.save();
            x.orderSuit(0, 0);
            BOOK.due("none", x.restore(), 0);
            for (int i = 0; i < 6; i++) {
                x.orderSuit(0, 0);
            }
            x.save();
            x.scrap(3);
            BOOK.due("the most", x.restore(), 6);
        });
        BOOK.test("Throws `IllegalStateException` if there is no snapshot", () -> {
            BOOK.refusedAsMade("a new one", STATE, TailorWorkshop::new, x -> x.restore());
            BOOK.refusedAsMade("after changes", STATE, Workshops::withGoneSuits, x -> x.restore());
            BOOK.refusedAsMade("after undo", STATE, () -> withPurchases(9, 8), x -> x.restore());
            BOOK.refusedAsMade("after scripts", STATE,
                    () -> Workshops.withTexts(Workshops.withFaults(Workshops.withSuit())), x -> x.restore());
            TailorWorkshop x = new TailorWorkshop();
            x.save();
            x.buyCloth(0, 1);
            x.undo();
            BOOK.due("undo leaves the snapshot", x.restore(), 0);
        });
    }
}

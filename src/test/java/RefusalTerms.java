import java.util.ArrayList;
import java.util.List;
import java.util.NoSuchElementException;

/** The sentences of the heading "Terms" on exceptions. */
final class RefusalTerms {
    private static final Class<NoSuchElementException> MISSING = NoSuchElementException.class;
    private static final Class<IndexOutOfBoundsException> OUTSIDE = IndexOutOfBoundsException.class;
    private static final Class<IllegalArgumentException> ARGUMENT = IllegalArgumentException.class;
    private static final Class<IllegalStateException> STATE = IllegalStateException.class;
    private static final Class<UnsupportedOperationException> UNSUPPORTED = UnsupportedOperationException.class;

    record Refusal(Class<? extends RuntimeException> want, Book.Call call) {
    }

    private RefusalTerms() {
    }

    static void tell(Book book) {
        changeNothing(book);
        comeInOrder(book);
    }

    /**
     * A workshop in which each change can be refused for each reason. There are five customers, 0 with two legs and
     * 1 with sixteen, and six suits: 0 is sewn, its sleeve 0 before its sleeve 1; 1 has twelve demands, all with the
     * sleeve 15; 2 is of the cloth 2, of which there is none; of 3 the sleeve 1 is cut, and the sleeve 0 is before
     * it; of 4 and 5 the sleeve 1 is sewn. The cloth 3 is full.
     */
    static TailorWorkshop withAllReasons() {
        TailorWorkshop x = new TailorWorkshop();
        x.buyCloth(0, 999);
        x.buyCloth(3, 999);
        x.buyCloth(3, 999);
        x.buyCloth(3, 2);
        for (int i = 0; i < 5; i++) {
            x.addCustomer(i == 1 ? 8 : 1, 20);
        }
        for (int i = 0; i < 6; i++) {
            x.orderSuit(i == 1 ? 1 : 0, i == 2 ? 2 : 0);
        }
        x.demand(0, 0, 1);
        Workshops.cutAndSew(x, 0, 0, 1);
        for (int i = 0; i < 12; i++) {
            x.demand(1, i, 15);
        }
        x.demand(3, 0, 1);
        x.cut(3, 1);
        Workshops.cutAndSew(x, 4, 1);
        Workshops.cutAndSew(x, 5, 1);
        return x;
    }

    /** For each method and each of its exceptions a call on this workshop. */
    static List<Refusal> refusals() {
        List<Refusal> rows = new ArrayList<>();
        add(rows, MISSING, Calls.ofSuit(6));
        add(rows, MISSING, Calls.ofSuit(-1));
        add(rows, OUTSIDE, Calls.ofSleeve(0, 2));
        add(rows, OUTSIDE, Calls.ofSleeve(1, 16));
        add(rows, OUTSIDE, Calls.ofSleeve(1, -1));
        add(rows, OUTSIDE, Calls.ofCustomer(5));
        add(rows, OUTSIDE, Calls.ofCustomer(-1));
        add(rows, OUTSIDE, Calls.ofLeg(0, 2));
        add(rows, OUTSIDE, Calls.ofLeg(1, 16));
        add(rows, OUTSIDE, Calls.ofLeg(1, -1));
        add(rows, OUTSIDE, x -> x.buyCloth(4, 5), x -> x.orderSuit(0, 4), x -> x.stock(4), x -> x.outputAt(400),
                x -> x.sewingOrder(0, 0), x -> x.sewingOrderByQueue(0, 0), x -> x.sewingOrder(2, 2),
                x -> x.sewingOrderByQueue(2, 2));
        add(rows, MISSING, x -> x.customerByLegs(5), x -> x.suitAt(6));
        add(rows, ARGUMENT, x -> x.buyCloth(0, 0), x -> x.buyCloth(0, 1000), x -> x.addCustomer(0, 20),
                x -> x.addCustomer(9, 20), x -> x.addCustomer(1, 9), x -> x.addCustomer(1, 61), x -> x.fit(0, 0, 9),
                x -> x.fit(0, 0, 61), x -> x.demand(2, 0, 0), x -> x.type((char) 31), x -> x.type((char) 127));
        add(rows, STATE, x -> x.addCustomer(1, 20), x -> x.orderSuit(0, 0), x -> x.cut(0, 0), x -> x.cut(3, 1),
                x -> x.sew(2, 0), x -> x.sew(0, 0), x -> x.unpick(2, 0), x -> x.demand(0, 0, 1),
                x -> x.demand(1, 12, 15), x -> x.demand(4, 0, 1), x -> x.deliver(2),
                x -> x.sleeveLength(2, 0), x -> x.doesFit(2, 0));
        add(rows, UNSUPPORTED, x -> x.buyCloth(3, 1), x -> x.cut(2, 0), x -> x.sew(3, 1), x -> x.unpick(0, 0),
                x -> x.demand(3, 1, 0), x -> x.demand(0, 1, 0));
        return rows;
    }

    private static void add(List<Refusal> rows, Class<? extends RuntimeException> want, Book.Call... calls) {
        for (Book.Call call : calls) {
            rows.add(new Refusal(want, call));
        }
    }

    private static void changeNothing(Book book) {
        book.test("A method that throws an exception changes nothing unless its description says otherwise.", () -> {
            List<Refusal> rows = refusals();
            for (int i = 0; i < rows.size(); i++) {
                book.refused("row " + i, rows.get(i).want(), RefusalTerms::withAllReasons, rows.get(i).call());
            }
            // Not all at once, which would take more calls than an object may have.
            for (int i = 0; i < rows.size(); i += 50) {
                oneAfterTheOther(book, rows.subList(i, Math.min(i + 50, rows.size())));
            }
            onANewObject(book);
        });
    }

    private static void oneAfterTheOther(Book book, List<Refusal> rows) {
        book.due("one after the other", Views.all(() -> {
            TailorWorkshop x = Workshops.dressed(withAllReasons());
            rows.forEach(row -> Checks.thrownBy(() -> row.call().on(x)));
            return x;
        }), Views.all(() -> Workshops.dressed(withAllReasons())));
    }

    private static void onANewObject(Book book) {
        book.refusedAsMade("no cloth", ArithmeticException.class, TailorWorkshop::new, x -> x.wasteShare());
        book.refusedAsMade("no script", MISSING, TailorWorkshop::new, x -> x.errorPosition());
        book.refusedAsMade("no script", MISSING, TailorWorkshop::new, x -> x.failedCommand());
        book.refusedAsMade("no change", MISSING, TailorWorkshop::new, x -> x.undo());
        book.refusedAsMade("no snapshot", STATE, TailorWorkshop::new, x -> x.restore());
        book.refusedAsMade("a full buffer", STATE, () -> {
            TailorWorkshop x = new TailorWorkshop();
            Workshops.type(x, "buy 0 999;buy 1 999;buy 2 999;buy 3 999;buy 0 999;buy 1 99");
            Workshops.type(x, "  ");
            return x;
        }, x -> x.type('9'));
    }

    private static void comeInOrder(Book book) {
        book.test("If several exceptions apply, the one that is listed first is thrown.", () -> {
            first(book, OUTSIDE, x -> x.buyCloth(4, 0), x -> x.buyCloth(-1, 1000), x -> x.fit(5, 0, 9),
                    x -> x.fit(0, 2, 61), x -> x.fit(-1, -1, 0), x -> x.orderSuit(5, 0), x -> x.orderSuit(0, 4),
                    x -> x.orderSuit(-1, -1), x -> x.demand(0, 2, 2), x -> x.demand(0, -1, -1),
                    x -> x.demand(1, 16, 15), x -> x.demand(1, 15, 16), x -> x.cut(2, 2), x -> x.sew(2, 2),
                    x -> x.unpick(2, 2), x -> x.sleeveLength(2, 2), x -> x.doesFit(2, 2));
            first(book, ARGUMENT, x -> x.buyCloth(3, 1000), x -> x.buyCloth(3, Integer.MAX_VALUE),
                    x -> x.addCustomer(0, 20), x -> x.addCustomer(1, 61), x -> x.demand(1, 15, 15),
                    x -> x.demand(1, 3, 3));
            first(book, STATE, x -> x.demand(1, 15, 0), x -> x.demand(1, 0, 15));
            first(book, MISSING, x -> x.cut(6, 2), x -> x.sew(6, 2), x -> x.unpick(6, -1), x -> x.demand(6, 2, 2),
                    x -> x.demand(-1, -1, -1), x -> x.sleeveState(6, 2), x -> x.sleeveLength(6, 2),
                    x -> x.doesFit(6, 2), x -> x.isBefore(6, 2, 2), x -> x.sewingOrder(6, -1),
                    x -> x.sewingOrderByQueue(6, -1));
            fromOtherStates(book);
            scripts(book);
        });
    }

    private static void first(Book book, Class<? extends RuntimeException> want, Book.Call... calls) {
        for (int i = 0; i < calls.length; i++) {
            book.refused(want.getSimpleName() + " " + i, want, RefusalTerms::withAllReasons, calls[i]);
        }
    }

    private static void fromOtherStates(Book book) {
        book.refused("cut, and the stock is too small", STATE, () -> {
            TailorWorkshop x = new TailorWorkshop();
            x.buyCloth(0, 22);
            x.addCustomer(1, 20);
            x.orderSuit(0, 0);
            x.cut(0, 0);
            return x;
        }, x -> x.cut(0, 0));
        book.refused("planned, and one before it is not sewn", STATE, () -> {
            TailorWorkshop x = Workshops.withSuit();
            x.demand(0, 1, 0);
            return x;
        }, x -> x.sew(0, 0));
        book.refused("the second alone is sewn, and it would be a cycle", STATE, () -> {
            TailorWorkshop x = Workshops.withSuit();
            x.demand(0, 0, 1);
            Workshops.cutAndSew(x, 0, 0);
            return x;
        }, x -> x.demand(0, 1, 0));
        Book.Maker full = () -> {
            TailorWorkshop x = new TailorWorkshop();
            Workshops.type(x, "buy 0 1;".repeat(7) + "buy ");
            return x;
        };
        book.refusedAsMade("a full buffer and a wrong character", ARGUMENT, full, x -> x.type((char) 31));
        book.refusedAsMade("a full buffer and a wrong character", ARGUMENT, full, x -> x.type((char) 127));
    }

    private static void scripts(Book book) {
        TailorWorkshop x = new TailorWorkshop();
        book.due("a failing command, then a wrong form", Workshops.thrownByRun(x, "buy 9 9;scrap 0;x"),
                "IllegalArgumentException");
        book.due("its error position", x.errorPosition(), 16);
        book.due("no failed command", Checks.thrownBy(x::failedCommand), "NoSuchElementException");
    }
}

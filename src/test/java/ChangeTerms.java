import java.util.ArrayList;
import java.util.List;

/** The sentences of the heading "Terms" on changes, undo and the snapshot. */
final class ChangeTerms {
    private ChangeTerms() {
    }

    static void tell(Book book) {
        changes(book);
        latestEight(book);
        covered(book);
    }

    /** The suit 0 can be delivered, of the suit 1 the sleeve 1 is cut, and nothing can be undone. */
    private static TailorWorkshop base() {
        TailorWorkshop x = Workshops.withSewnSuit(1, 20);
        x.orderSuit(0, 0);
        x.orderSuit(0, 0);
        x.cut(1, 1);
        x.save();
        x.restore();
        return x;
    }

    private static Book.Call[] everyChange() {
        return new Book.Call[] {x -> x.buyCloth(0, 1), x -> x.addCustomer(1, 20), x -> x.fit(0, 0, 30),
            x -> x.orderSuit(0, 0), x -> x.cut(1, 0), x -> x.sew(1, 1), x -> x.unpick(0, 0), x -> x.demand(2, 0, 1),
            x -> x.deliver(0), x -> x.scrap(2), x -> Workshops.run(x, "buy 0 1;buy 0 1")};
    }

    private static void changes(Book book) {
        book.test("A change is a call of buyCloth, addCustomer, fit, orderSuit, cut, sew, unpick, demand, deliver,"
                + " scrap or runScript that returns normally, even if the state is the same afterwards.", () -> {
            for (Book.Call change : everyChange()) {
                countsAsOne(book, change);
            }
            countsAsOne(book, x -> x.fit(0, 0, 20));
            countsAsOne(book, x -> Workshops.run(x, "fit 0 0 20"));
            countsAsOne(book, x -> Workshops.run(x, "fit 0 0 30;fit 0 0 20"));
            for (Book.Call question : Calls.questions()) {
                book.due("answered", Checks.thrownBy(() -> question.on(Workshops.dressed(base()))).substring(0, 6),
                        "answer");
                countsAsNone(book, Workshops.dressed(base()), question);
            }
            countsAsNone(book, base(), x -> Workshops.run(x, "buy 0 1;"));
            countsAsNone(book, base(), x -> Workshops.run(x, "buy 0 1;buy 9 1"));
            for (RefusalTerms.Refusal refusal : RefusalTerms.refusals()) {
                TailorWorkshop x = RefusalTerms.withAllReasons();
                x.save();
                x.restore();
                countsAsNone(book, x, refusal.call());
            }
            TailorWorkshop x = base();
            x.restore();
            book.due("restore is none", Checks.thrownBy(x::undo), "NoSuchElementException");
        });
    }

    private static void countsAsOne(Book book, Book.Call change) {
        TailorWorkshop x = base();
        x.buyCloth(3, 1);
        change.on(x);
        book.due("the second change", x.undo(), 1);
        book.due("the first change", x.undo(), 0);
        book.due("no more", Checks.thrownBy(x::undo), "NoSuchElementException");
        book.due("what stood before", Views.room(x), Views.room(base()));
    }

    private static void countsAsNone(Book book, TailorWorkshop x, Book.Call call) {
        x.fit(0, 0, 20);
        Checks.thrownBy(() -> call.on(x));
        book.due("the one change", x.undo(), 0);
        book.due("no more", Checks.thrownBy(x::undo), "NoSuchElementException");
    }

    private static void latestEight(Book book) {
        book.test("The latest 8 changes can be undone, the latest one first.", () -> {
            for (int count = 0; count <= 20; count++) {
                TailorWorkshop x = new TailorWorkshop();
                List<String> before = new ArrayList<>();
                for (int i = 0; i < count; i++) {
                    before.add(Views.room(x));
                    x.buyCloth(i % 4, i + 1);
                }
                for (int undone = 1; undone <= Math.min(count, 8); undone++) {
                    book.due(count + " changes, undo " + undone, x.undo(), Math.min(count, 8) - undone);
                    book.due(count + " changes, undo " + undone, Views.room(x), before.get(count - undone));
                }
                book.due(count + " changes, no more", Checks.thrownBy(x::undo), "NoSuchElementException");
            }
            everyKind(book);
        });
    }

    /** Twelve changes of all kinds, of which the first four cannot be undone any more. */
    private static void everyKind(Book book) {
        Book.Call[] changes = {y -> y.buyCloth(1, 500), y -> y.orderSuit(0, 1), y -> y.addCustomer(1, 20),
            y -> y.fit(0, 1, 21), y -> y.cut(0, 0), y -> y.sew(0, 0), y -> y.unpick(0, 0), y -> y.demand(0, 0, 1),
            y -> Workshops.run(y, "cut 0 0;sew 0 0;cut 0 1;sew 0 1;suit 0 2;suit 0 3"), y -> y.scrap(1),
            y -> y.deliver(0), y -> y.fit(0, 1, 21)};
        for (int undone = 1; undone <= 8; undone++) {
            TailorWorkshop x = after(changes, changes.length);
            for (int i = 1; i <= undone; i++) {
                book.due("undo " + i, x.undo(), 8 - i);
            }
            book.due("undo " + undone, Views.room(x), Views.room(after(changes, changes.length - undone)));
        }
    }

    private static TailorWorkshop after(Book.Call[] changes, int count) {
        TailorWorkshop x = Workshops.withCustomers();
        for (int i = 0; i < count; i++) {
            changes[i].on(x);
        }
        return x;
    }

    private static void covered(Book book) {
        book.test("Undo and the snapshot cover everything except the script buffer, the error position, the index of"
                + " the failed command, the output text and the snapshot itself; they cover the id of the next suit.",
                () -> {
            for (Book.Call change : everyChange()) {
                givesBack(book, change, TailorWorkshop::undo);
                givesBack(book, change, TailorWorkshop::restore);
            }
            nextSuit(book);
            notCovered(book, "undo", TailorWorkshop::undo);
            notCovered(book, "restore", TailorWorkshop::restore);
            snapshotItself(book);
        });
    }

    private static void givesBack(Book book, Book.Call change, Book.Call back) {
        book.due("what it gives back", Views.all(() -> {
            TailorWorkshop x = base();
            change.on(x);
            back.on(x);
            return x;
        }), Views.all(ChangeTerms::base));
    }

    private static void nextSuit(Book book) {
        TailorWorkshop x = base();
        book.due("ordered", x.orderSuit(0, 0), 3);
        x.undo();
        book.due("undone", x.orderSuit(0, 0), 3);
        book.due("one more", x.orderSuit(0, 0), 4);
        x.scrap(4);
        x.restore();
        book.due("restored", x.orderSuit(0, 0), 3);
        x.save();
        x.scrap(3);
        x.restore();
        book.due("the snapshot is of a later state", x.orderSuit(0, 0), 4);
    }

    /** What is typed, rendered and run after the snapshot and the change stays as it is. */
    private static void notCovered(Book book, String what, Book.Call back) {
        TailorWorkshop x = base();
        x.buyCloth(0, 5);
        x.renderOrder(1);
        Workshops.thrownByRun(x, "buy 0 1;buy 0 1?");
        Workshops.thrownByRun(x, "buy 0 1;buy 9 1");
        Workshops.type(x, "buy 3 9");
        back.on(x);
        book.due(what + ", the stock", x.stock(0), base().stock(0));
        book.due(what + ", the output text", Views.output(x), "0,1");
        book.due(what + ", the error position", x.errorPosition(), 15);
        book.due(what + ", the failed command", x.failedCommand(), 1);
        book.due(what + ", the script buffer", x.type('9'), 8);
        book.due(what + ", the script buffer", x.runScript(), 1);
        book.due(what + ", the script buffer", x.stock(3), 99);
    }

    private static void snapshotItself(Book book) {
        TailorWorkshop x = new TailorWorkshop();
        x.buyCloth(0, 5);
        x.save();
        x.undo();
        book.due("undone", x.stock(0), 0);
        book.due("the snapshot stays", x.restore(), 0);
        book.due("the snapshot stays", x.stock(0), 5);
        x.buyCloth(0, 1);
        x.undo();
        x.buyCloth(0, 2);
        x.restore();
        book.due("whatever was changed and undone", x.stock(0), 5);
        x.buyCloth(0, 3);
        x.restore();
        book.due("or changed", x.stock(0), 5);
    }
}

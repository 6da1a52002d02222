import java.util.ArrayList;
import java.util.List;
import java.util.NoSuchElementException;

/** Promises 52 to 54: undo and the snapshot. */
public final class HistoryTest {
    private static final Checks CHECKS = new Checks();
    private static final Class<NoSuchElementException> MISSING = NoSuchElementException.class;

    private HistoryTest() {
    }

    public static void main(String[] arguments) {
        eightChanges();
        everyKindOfChange();
        whatIsNoChange();
        changesAfterUndo();
        idOfTheNextSuit();
        save();
        restore();
        snapshotAndUndo();
        CHECKS.end();
    }

    private static void eightChanges() {
        TailorWorkshop x = new TailorWorkshop();
        for (int i = 1; i <= 10; i++) {
            x.buyCloth(0, i);
        }
        int stock = 55;
        for (int i = 0; i < 8; i++) {
            CHECKS.due(52, x.undo(), 7 - i);
            stock -= 10 - i;
            CHECKS.due(52, x.stock(0), stock);
            CHECKS.due(52, x.boughtTotal(), stock);
        }
        CHECKS.refused(52, x, MISSING, x::undo);
        CHECKS.due(52, x.stock(0), 3);
    }

    /** Undoes each of these changes, the latest first, and compares what stands with what stood before it. */
    private static void everyKindOfChange() {
        List<Runnable> changes = new ArrayList<>();
        TailorWorkshop x = new TailorWorkshop();
        changes.add(() -> x.buyCloth(1, 500));
        changes.add(() -> x.addCustomer(1, 20));
        changes.add(() -> x.fit(0, 1, 21));
        changes.add(() -> x.orderSuit(0, 1));
        changes.add(() -> x.cut(0, 0));
        changes.add(() -> x.sew(0, 0));
        changes.add(() -> x.unpick(0, 0));
        changes.add(() -> x.demand(0, 0, 1));
        changes.add(() -> Workshops.run(x, "cut 0 0;sew 0 0;cut 0 1;sew 0 1;suit 0 2;suit 0 3"));
        changes.add(() -> x.scrap(1));
        changes.add(() -> x.deliver(0));
        changes.add(() -> x.fit(0, 1, 21));
        List<String> views = new ArrayList<>();
        for (Runnable change : changes) {
            views.add(Views.room(x));
            change.run();
        }
        for (int i = 0; i < 8; i++) {
            CHECKS.due(52, x.undo(), 7 - i);
            CHECKS.due(52, "step " + i, Views.room(x), views.get(views.size() - 1 - i));
            CHECKS.due(44, x.isConsistent(), true);
        }
    }

    private static void whatIsNoChange() {
        TailorWorkshop x = Workshops.withSuit();
        x.save();
        x.renderSuit(0);
        x.renderOrder(0);
        x.type('b');
        Checks.thrownBy(x::runScript);
        Checks.thrownBy(() -> x.buyCloth(0, 0));
        Checks.thrownBy(() -> x.scrap(7));
        CHECKS.due(52, "the order of the suit is the latest change", x.undo(), 2);
        CHECKS.due(52, x.suitCount(), 0);
        CHECKS.due(52, x.undo(), 1);
        CHECKS.due(52, x.customerCount(), 0);
        x.addCustomer(1, 20);
        x.fit(0, 0, 20);
        CHECKS.due(52, "a change that alters nothing is one", x.undo(), 2);
        CHECKS.due(52, x.customerCount(), 1);
    }

    private static void changesAfterUndo() {
        TailorWorkshop x = new TailorWorkshop();
        for (int i = 0; i < 9; i++) {
            x.buyCloth(0, 1);
        }
        x.undo();
        x.undo();
        x.buyCloth(1, 5);
        CHECKS.due(52, x.undo(), 6);
        CHECKS.due(52, x.stock(1), 0);
        CHECKS.due(52, x.stock(0), 7);
        CHECKS.due(52, "what was undone does not come again", x.undo(), 5);
        CHECKS.due(52, x.stock(0), 6);
    }

    private static void idOfTheNextSuit() {
        TailorWorkshop x = new TailorWorkshop();
        x.addCustomer(1, 20);
        x.save();
        CHECKS.due(52, x.orderSuit(0, 0), 0);
        x.undo();
        CHECKS.due(52, x.orderSuit(0, 0), 0);
        CHECKS.due(52, x.orderSuit(0, 0), 1);
        x.restore();
        CHECKS.due(54, x.orderSuit(0, 0), 0);
    }

    private static void save() {
        TailorWorkshop x = new TailorWorkshop();
        CHECKS.due(53, x.save(), 0);
        x.addCustomer(1, 20);
        x.orderSuit(0, 0);
        x.orderSuit(0, 0);
        CHECKS.due(53, x.save(), 2);
        CHECKS.due(53, "the later one replaces the earlier one", x.restore(), 2);
        CHECKS.due(53, x.suitCount(), 2);
    }

    private static void restore() {
        TailorWorkshop x = Workshops.withSuit();
        CHECKS.refused(54, x, IllegalStateException.class, x::restore);
        x.demand(0, 0, 1);
        Workshops.cutAndSew(x, 0, 0);
        String saved = Views.room(x);
        x.save();
        Workshops.cutAndSew(x, 0, 1);
        x.demand(0, 2, 3);
        x.fit(0, 3, 50);
        x.addCustomer(4, 44);
        x.orderSuit(1, 3);
        x.scrap(0);
        CHECKS.due(54, x.restore(), 1);
        CHECKS.due(54, Views.room(x), saved);
        CHECKS.refused(54, "nothing to undo", x, MISSING, x::undo);
        x.buyCloth(2, 5);
        x.scrap(0);
        CHECKS.due(54, "the snapshot is kept", x.restore(), 1);
        CHECKS.due(54, Views.room(x), saved);
        x.buyCloth(2, 5);
        CHECKS.due(54, x.undo(), 0);
        CHECKS.due(54, Views.room(x), saved);
    }

    private static void snapshotAndUndo() {
        TailorWorkshop x = new TailorWorkshop();
        x.buyCloth(0, 5);
        x.save();
        x.undo();
        CHECKS.due(54, x.restore(), 0);
        CHECKS.due(54, "undo leaves the snapshot", x.stock(0), 5);
        x.buyCloth(0, 1);
        x.undo();
        x.buyCloth(0, 2);
        x.restore();
        CHECKS.due(54, "a change after the restore leaves it too", x.stock(0), 5);
    }
}

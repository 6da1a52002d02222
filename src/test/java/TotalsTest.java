/** Promises 37 to 44: totals and checks. */
public final class TotalsTest {
    private static final Checks CHECKS = new Checks();

    private TotalsTest() {
    }

    public static void main(String[] arguments) {
        totals();
        meanLeg();
        wasteShare();
        isConsistent();
        CHECKS.end();
    }

    private static void totals() {
        TailorWorkshop x = new TailorWorkshop();
        due(x, 0, 0, 0, 0, 0);
        x.buyCloth(0, 100);
        x.buyCloth(2, 50);
        due(x, 150, 0, 0, 0, 0);
        x.addCustomer(1, 20);
        x.orderSuit(0, 0);
        x.orderSuit(0, 2);
        x.demand(0, 0, 1);
        Workshops.cutAndSew(x, 0, 0, 1);
        due(x, 150, 0, 0, 0, 0);
        x.unpick(0, 1);
        due(x, 150, 22, 0, 0, 0);
        Workshops.cutAndSew(x, 0, 1);
        x.deliver(0);
        due(x, 150, 22, 44, 43, 1);
        Workshops.cutAndSew(x, 1, 0);
        x.scrap(1);
        due(x, 150, 44, 44, 43, 1);
        x.buyCloth(2, 16);
        x.orderSuit(0, 2);
        Workshops.cutAndSew(x, 2, 0, 1);
        x.deliver(2);
        due(x, 166, 44, 88, 83, 2);
        CHECKS.due(44, x.isConsistent(), true);
    }

    private static void due(TailorWorkshop x, int bought, int waste, int delivered, int income, int suits) {
        CHECKS.due(37, x.boughtTotal(), bought);
        CHECKS.due(38, x.wasteTotal(), waste);
        CHECKS.due(39, x.deliveredTotal(), delivered);
        CHECKS.due(40, x.income(), income);
        CHECKS.due(41, x.deliveredSuits(), suits);
    }

    private static void meanLeg() {
        TailorWorkshop x = new TailorWorkshop();
        CHECKS.refused(42, x, IndexOutOfBoundsException.class, () -> x.meanLeg(0));
        x.addCustomer(2, 20);
        x.addCustomer(3, 60);
        CHECKS.due(42, x.meanLeg(0), 20.0);
        x.fit(0, 3, 21);
        CHECKS.due(42, x.meanLeg(0), 20.25);
        x.fit(1, 0, 50);
        CHECKS.due(42, x.meanLeg(1), 350.0 / 6.0);
        for (int customer : new int[] {-1, 2, Integer.MIN_VALUE, Integer.MAX_VALUE}) {
            CHECKS.refused(42, x, IndexOutOfBoundsException.class, () -> x.meanLeg(customer));
        }
    }

    private static void wasteShare() {
        TailorWorkshop x = new TailorWorkshop();
        CHECKS.refused(43, x, ArithmeticException.class, x::wasteShare);
        x.buyCloth(1, 70);
        CHECKS.due(43, x.wasteShare(), 0.0f);
        x.addCustomer(1, 20);
        x.orderSuit(0, 1);
        x.cut(0, 0);
        CHECKS.due(43, "a cut sleeve is no waste", x.wasteShare(), 0.0f);
        x.unpick(0, 0);
        CHECKS.due(43, x.wasteShare(), 22.0f / 70.0f);
        x.cut(0, 1);
        x.scrap(0);
        CHECKS.due(43, x.wasteShare(), 44.0f / 70.0f);
    }

    private static void isConsistent() {
        TailorWorkshop x = new TailorWorkshop();
        CHECKS.due(44, x.isConsistent(), true);
        x.buyCloth(0, 200);
        x.addCustomer(2, 20);
        x.orderSuit(0, 0);
        x.orderSuit(0, 0);
        x.demand(0, 3, 0);
        x.demand(0, 0, 1);
        CHECKS.due(44, x.isConsistent(), true);
        Workshops.cutAndSew(x, 0, 3, 0);
        x.cut(1, 1);
        x.fit(0, 3, 40);
        CHECKS.due(44, "also when a sleeve does not fit", x.isConsistent(), true);
        x.unpick(0, 0);
        x.scrap(1);
        CHECKS.due(44, x.isConsistent(), true);
        x.undo();
        CHECKS.due(44, x.isConsistent(), true);
    }
}

import java.util.NoSuchElementException;

/** Promises 19 to 36: what can be asked of suits. */
public final class SuitsTest {
    private static final Checks CHECKS = new Checks();
    private static final Class<NoSuchElementException> MISSING = NoSuchElementException.class;
    private static final Class<IndexOutOfBoundsException> OUTSIDE = IndexOutOfBoundsException.class;
    private static final Class<IllegalStateException> STATE = IllegalStateException.class;
    private static final int MIN = Integer.MIN_VALUE;
    private static final int MAX = Integer.MAX_VALUE;

    private SuitsTest() {
    }

    public static void main(String[] arguments) {
        suitsInOrder();
        customerAndCloth();
        sleeves();
        doesFit();
        counts();
        isBefore();
        canDeliver();
        price();
        sewingOrders();
        sewingOrderOfManySleeves();
        rounds();
        clothNeeded();
        CHECKS.end();
    }

    private interface SuitCall {
        Object answer(int suit);
    }

    private interface SleeveCall {
        Object answer(int suit, int sleeve);
    }

    /** There is the suit 0 alone. */
    private static void noSuit(int promise, TailorWorkshop x, SuitCall call) {
        for (int suit : new int[] {-1, 1, MIN, MAX}) {
            CHECKS.refused(promise, x, MISSING, () -> call.answer(suit));
        }
    }

    /** There is the suit 0 alone, with four sleeves. */
    private static void noSuitOrSleeve(int promise, TailorWorkshop x, SleeveCall call) {
        noSuit(promise, x, suit -> call.answer(suit, 0));
        noSuit(promise, x, suit -> call.answer(suit, -1));
        for (int sleeve : new int[] {-1, 4, 15, 16, MIN, MAX}) {
            CHECKS.refused(promise, x, OUTSIDE, () -> call.answer(0, sleeve));
        }
    }

    private static void suitsInOrder() {
        TailorWorkshop x = new TailorWorkshop();
        CHECKS.refused(20, x, MISSING, () -> x.suitAt(0));
        x.addCustomer(1, 20);
        for (int i = 0; i < 6; i++) {
            x.orderSuit(0, 0);
            CHECKS.due(19, x.suitCount(), i + 1);
            CHECKS.due(20, x.suitAt(i), i);
        }
        x.scrap(0);
        x.scrap(3);
        x.orderSuit(0, 0);
        CHECKS.due(19, x.suitCount(), 5);
        int[] ids = {1, 2, 4, 5, 6};
        for (int i = 0; i < 5; i++) {
            CHECKS.due(20, x.suitAt(i), ids[i]);
        }
        for (int position : new int[] {-1, 5, MIN, MAX}) {
            CHECKS.refused(20, x, MISSING, () -> x.suitAt(position));
        }
    }

    private static void customerAndCloth() {
        TailorWorkshop x = new TailorWorkshop();
        x.addCustomer(1, 20);
        x.addCustomer(2, 20);
        x.orderSuit(1, 3);
        CHECKS.due(21, x.customerOf(0), 1);
        CHECKS.due(22, x.clothOf(0), 3);
        noSuit(21, x, x::customerOf);
        noSuit(22, x, x::clothOf);
        x.orderSuit(0, 2);
        x.scrap(0);
        CHECKS.due(21, x.customerOf(1), 0);
        CHECKS.due(22, x.clothOf(1), 2);
        CHECKS.refused(21, x, MISSING, () -> x.customerOf(0));
        CHECKS.refused(22, x, MISSING, () -> x.clothOf(0));
    }

    private static void sleeves() {
        TailorWorkshop x = Workshops.withSuit();
        CHECKS.due(23, x.sleeveState(0, 3), 'p');
        x.fit(0, 3, 27);
        x.cut(0, 3);
        CHECKS.due(23, x.sleeveState(0, 3), 'c');
        CHECKS.due(24, x.sleeveLength(0, 3), 27);
        x.sew(0, 3);
        x.fit(0, 3, 28);
        CHECKS.due(23, x.sleeveState(0, 3), 's');
        CHECKS.due(24, x.sleeveLength(0, 3), 27);
        CHECKS.refused(24, x, STATE, () -> x.sleeveLength(0, 0));
        x.unpick(0, 3);
        CHECKS.due(23, x.sleeveState(0, 3), 'p');
        CHECKS.refused(24, x, STATE, () -> x.sleeveLength(0, 3));
        noSuitOrSleeve(23, x, x::sleeveState);
        noSuitOrSleeve(24, x, x::sleeveLength);
    }

    private static void doesFit() {
        TailorWorkshop x = Workshops.withSuit();
        CHECKS.refused(25, x, STATE, () -> x.doesFit(0, 1));
        x.cut(0, 1);
        CHECKS.due(25, x.doesFit(0, 1), true);
        x.fit(0, 0, 30);
        CHECKS.due(25, "another leg", x.doesFit(0, 1), true);
        x.fit(0, 1, 21);
        CHECKS.due(25, "longer by 1", x.doesFit(0, 1), false);
        x.sew(0, 1);
        CHECKS.due(25, x.doesFit(0, 1), false);
        x.fit(0, 1, 20);
        CHECKS.due(25, x.doesFit(0, 1), true);
        noSuitOrSleeve(25, x, x::doesFit);
    }

    private static void counts() {
        TailorWorkshop x = Workshops.withSuit();
        CHECKS.due(26, x.sewnSleeves(0), 0);
        CHECKS.due(27, x.demandCount(0), 0);
        CHECKS.due(31, x.sleevesLeft(0), 4);
        x.demand(0, 0, 1);
        x.demand(0, 0, 2);
        x.cut(0, 0);
        CHECKS.due(26, "a cut sleeve is not sewn", x.sewnSleeves(0), 0);
        CHECKS.due(31, x.sleevesLeft(0), 4);
        x.sew(0, 0);
        Workshops.cutAndSew(x, 0, 3);
        CHECKS.due(26, x.sewnSleeves(0), 2);
        CHECKS.due(27, x.demandCount(0), 2);
        CHECKS.due(31, x.sleevesLeft(0), 2);
        noSuit(26, x, x::sewnSleeves);
        noSuit(27, x, x::demandCount);
        noSuit(31, x, x::sleevesLeft);
    }

    private static void isBefore() {
        TailorWorkshop x = Workshops.withSuit();
        x.demand(0, 3, 1);
        x.demand(0, 1, 2);
        CHECKS.due(28, x.isBefore(0, 3, 1), true);
        CHECKS.due(28, "by way of another", x.isBefore(0, 3, 2), true);
        CHECKS.due(28, "the other way round", x.isBefore(0, 2, 3), false);
        CHECKS.due(28, x.isBefore(0, 1, 3), false);
        CHECKS.due(28, x.isBefore(0, 0, 2), false);
        CHECKS.due(28, "the same", x.isBefore(0, 1, 1), false);
        Workshops.cutAndSew(x, 0, 3, 1);
        CHECKS.due(28, "also when sewn", x.isBefore(0, 3, 2), true);
        noSuitOrSleeve(28, x, (suit, sleeve) -> x.isBefore(suit, sleeve, 0));
        noSuitOrSleeve(28, x, (suit, sleeve) -> x.isBefore(suit, 0, sleeve));
        noSuitOrSleeve(28, x, (suit, sleeve) -> x.isBefore(suit, sleeve, sleeve == 0 ? 1 : sleeve));
        TailorWorkshop y = Workshops.withSuit(8, 20);
        for (int i = 12; i > 0; i--) {
            y.demand(0, i, i - 1);
        }
        CHECKS.due(28, "a long way", y.isBefore(0, 12, 0), true);
        CHECKS.due(28, y.isBefore(0, 0, 12), false);
    }

    private static void canDeliver() {
        TailorWorkshop x = Workshops.withSuit();
        CHECKS.due(29, "planned", x.canDeliver(0), false);
        Workshops.cutAndSew(x, 0, 0, 1, 2);
        x.cut(0, 3);
        CHECKS.due(29, "one sleeve cut", x.canDeliver(0), false);
        x.sew(0, 3);
        CHECKS.due(29, x.canDeliver(0), true);
        x.fit(0, 3, 19);
        CHECKS.due(29, "a sleeve does not fit", x.canDeliver(0), false);
        x.unpick(0, 3);
        Workshops.cutAndSew(x, 0, 3);
        CHECKS.due(29, "shorter by 1", x.canDeliver(0), true);
        x.fit(0, 3, 18);
        x.unpick(0, 3);
        Workshops.cutAndSew(x, 0, 3);
        CHECKS.due(29, "shorter by 2", x.canDeliver(0), false);
        x.fit(0, 2, 17);
        x.unpick(0, 2);
        Workshops.cutAndSew(x, 0, 2);
        CHECKS.due(29, x.canDeliver(0), true);
        noSuit(29, x, x::canDeliver);
    }

    private static void price() {
        TailorWorkshop x = Workshops.withSuit();
        CHECKS.due(30, x.price(0), 80);
        x.demand(0, 0, 1);
        x.demand(0, 0, 2);
        CHECKS.due(30, x.price(0), 86);
        x.fit(0, 3, 31);
        CHECKS.due(30, "a planned sleeve gets the present length", x.price(0), 97);
        x.cut(0, 3);
        x.fit(0, 3, 20);
        CHECKS.due(30, "a cut sleeve keeps its own", x.price(0), 97);
        x.sew(0, 3);
        CHECKS.due(30, "a sewn sleeve too", x.price(0), 97);
        x.unpick(0, 3);
        CHECKS.due(30, x.price(0), 86);
        noSuit(30, x, x::price);
    }

    private static void orders(TailorWorkshop x, String due) {
        CHECKS.due(32, Views.orderOf(x, 0), due);
        CHECKS.due(33, Views.orderByQueueOf(x, 0), due);
    }

    private static void sewingOrders() {
        TailorWorkshop x = Workshops.withSuit();
        orders(x, "0,1,2,3");
        x.demand(0, 3, 0);
        orders(x, "1,2,3,0");
        x.demand(0, 2, 1);
        orders(x, "2,1,3,0");
        x.demand(0, 3, 1);
        orders(x, "2,3,0,1");
        Workshops.cutAndSew(x, 0, 3);
        orders(x, "0,2,1");
        Workshops.cutAndSew(x, 0, 0);
        orders(x, "2,1");
        for (int position : new int[] {-1, 2, 3, 4, 16, MIN, MAX}) {
            CHECKS.refused(32, x, OUTSIDE, () -> x.sewingOrder(0, position));
            CHECKS.refused(33, x, OUTSIDE, () -> x.sewingOrderByQueue(0, position));
        }
        noSuit(32, x, suit -> x.sewingOrder(suit, 0));
        noSuit(33, x, suit -> x.sewingOrderByQueue(suit, 0));
        noSuit(32, x, suit -> x.sewingOrder(suit, -1));
        noSuit(33, x, suit -> x.sewingOrderByQueue(suit, -1));
        Workshops.cutAndSew(x, 0, 2, 1);
        CHECKS.refused(32, x, OUTSIDE, () -> x.sewingOrder(0, 0));
        CHECKS.refused(33, x, OUTSIDE, () -> x.sewingOrderByQueue(0, 0));
    }

    private static void sewingOrderOfManySleeves() {
        TailorWorkshop x = Workshops.withSuit(8, 20);
        orders(x, "0,1,2,3,4,5,6,7,8,9,10,11,12,13,14,15");
        for (int i = 0; i < 6; i++) {
            x.demand(0, 15, i);
            x.demand(0, 15 - i, 14 - i);
        }
        orders(x, "6,7,8,15,0,1,2,3,4,5,14,13,12,11,10,9");
    }

    private static void rounds() {
        TailorWorkshop x = Workshops.withSuit();
        CHECKS.due(34, x.rounds(0), 1);
        x.demand(0, 1, 0);
        CHECKS.due(34, x.rounds(0), 2);
        x.demand(0, 3, 2);
        CHECKS.due(34, "side by side", x.rounds(0), 2);
        x.demand(0, 0, 3);
        CHECKS.due(34, x.rounds(0), 4);
        Workshops.cutAndSew(x, 0, 1);
        CHECKS.due(34, x.rounds(0), 3);
        Workshops.cutAndSew(x, 0, 0, 3);
        CHECKS.due(34, x.rounds(0), 1);
        x.cut(0, 2);
        CHECKS.due(34, "a cut sleeve is not sewn", x.rounds(0), 1);
        x.sew(0, 2);
        CHECKS.due(34, "all are sewn", x.rounds(0), 0);
        noSuit(34, x, x::rounds);
        TailorWorkshop y = Workshops.withSuit(8, 20);
        for (int i = 12; i > 0; i--) {
            y.demand(0, i, i - 1);
        }
        CHECKS.due(34, y.rounds(0), 13);
    }

    private static void clothNeeded() {
        TailorWorkshop x = Workshops.withSuit();
        needed(x, 88);
        x.fit(0, 1, 25);
        needed(x, 93);
        x.cut(0, 1);
        needed(x, 66);
        x.fit(0, 1, 60);
        needed(x, 66);
        x.sew(0, 1);
        needed(x, 66);
        x.unpick(0, 1);
        needed(x, 128);
        Workshops.cutAndSew(x, 0, 0, 1, 2, 3);
        needed(x, 0);
        noSuit(35, x, x::clothNeeded);
        noSuit(36, x, x::clothNeededByDifference);
    }

    private static void needed(TailorWorkshop x, int due) {
        CHECKS.due(35, x.clothNeeded(0), due);
        CHECKS.due(36, x.clothNeededByDifference(0), due);
    }
}

import java.util.NoSuchElementException;

/** Promises 19 to 36: what can be asked of suits. */
public final class SuitsTest {
    private static final Book BOOK = new Book();
    private static final Class<NoSuchElementException> MISSING = NoSuchElementException.class;
    private static final Class<IndexOutOfBoundsException> OUTSIDE = IndexOutOfBoundsException.class;
    private static final Class<IllegalStateException> STATE = IllegalStateException.class;

    private SuitsTest() {
    }

    public static void main(String[] arguments) {
        suitCount();
        suitAt();
        customerAndCloth();
        sleeveState();
        sleeveLength();
        doesFit();
        sewnSleeves();
        demandCount();
        isBefore();
        canDeliver();
        price();
        sleevesLeft();
        sewingOrder();
        sewingOrderByQueue();
        rounds();
        clothNeeded();
        clothNeededByDifference();
        BOOK.end();
    }

    private interface SuitCall {
        Object on(TailorWorkshop x, int suit);
    }

    private interface SleeveCall {
        Object on(TailorWorkshop x, int suit, int sleeve);
    }

    private static void noSuit(SuitCall call) {
        BOOK.test("Throws `NoSuchElementException` if there is no such suit", () -> {
            for (int suit : Workshops.outside(1)) {
                BOOK.refused("suit " + suit, MISSING, Workshops::withSewnSuit, x -> call.on(x, suit));
            }
            for (int suit : new int[] {2, 5, 6}) {
                BOOK.refused("suit " + suit, MISSING, Workshops::withGoneSuits, x -> call.on(x, suit));
            }
            BOOK.refused("none at all", MISSING, TailorWorkshop::new, x -> call.on(x, 0));
            BOOK.refused("undone", MISSING, () -> {
                TailorWorkshop x = Workshops.withSuit();
                x.undo();
                return x;
            }, x -> call.on(x, 0));
        });
    }

    private static void noSleeve(SleeveCall call) {
        for (int sleeve : Workshops.outside(4)) {
            BOOK.refused("sleeve " + sleeve, OUTSIDE, Workshops::withSuit, x -> call.on(x, 0, sleeve));
            BOOK.refused("sleeve " + sleeve, OUTSIDE, Workshops::withSewnSuit, x -> call.on(x, 0, sleeve));
        }
        for (int sleeve : Workshops.outside(16)) {
            BOOK.refused("sleeve " + sleeve, OUTSIDE, () -> Workshops.withSuit(8, 20), x -> call.on(x, 0, sleeve));
        }
    }

    private static void noSuitOrSleeve(SleeveCall call) {
        noSuit((x, suit) -> call.on(x, suit, 0));
        BOOK.test("Throws `IndexOutOfBoundsException` if the suit has no such sleeve", () -> noSleeve(call));
    }

    private static void whilePlanned(SleeveCall call) {
        BOOK.test("Throws `IllegalStateException` if the sleeve is planned", () -> {
            for (int sleeve = 0; sleeve < 4; sleeve++) {
                int same = sleeve;
                BOOK.refused("never cut", STATE, Workshops::withSuit, x -> call.on(x, 0, same));
                BOOK.refused("unpicked", STATE, () -> {
                    TailorWorkshop x = Workshops.withSewnSuit();
                    x.unpick(0, same);
                    return x;
                }, x -> call.on(x, 0, same));
            }
        });
    }

    private static void suitCount() {
        BOOK.promise(19);
        BOOK.test("Returns the number of suits.", () -> {
            TailorWorkshop x = Workshops.withCustomers();
            BOOK.due("none", x.suitCount(), 0);
            for (int i = 1; i <= 6; i++) {
                x.orderSuit(0, 0);
                BOOK.due(x.suitCount(), i);
            }
            Checks.thrownBy(() -> x.orderSuit(0, 0));
            BOOK.due("the most", x.suitCount(), 6);
            x.scrap(0);
            BOOK.due("one less", x.suitCount(), 5);
        });
    }

    private static void suitAt() {
        BOOK.promise(20);
        BOOK.test("Returns a suit by its position in the order of ids.", () -> {
            TailorWorkshop x = Workshops.withGoneSuits();
            x.orderSuit(0, 0);
            BOOK.due("the suits 2 and 5 are gone", positions(x), "0 1 3 4 6 ");
            x.scrap(0);
            x.scrap(6);
            BOOK.due("the first and the last too", positions(x), "1 3 4 ");
            x.undo();
            BOOK.due("the last is there again", positions(x), "1 3 4 6 ");
        });
        BOOK.test("`position`: the position, counted from 0", () -> {
            TailorWorkshop x = Workshops.withCustomers();
            for (int i = 0; i < 6; i++) {
                x.orderSuit(0, 0);
            }
            BOOK.due("the first", x.suitAt(0), 0);
            BOOK.due("the last", x.suitAt(5), 5);
        });
        BOOK.test("Returns the id of the suit.", () -> {
            TailorWorkshop x = Workshops.withSuit();
            BOOK.due(x.suitAt(0), 0);
            x.scrap(0);
            x.orderSuit(0, 0);
            BOOK.due(x.suitAt(0), 1);
        });
        BOOK.test("Throws `NoSuchElementException` if there is no such position", () -> {
            for (int position : Workshops.outside(4)) {
                BOOK.refused("position " + position, MISSING, Workshops::withGoneSuits, x -> x.suitAt(position));
            }
            BOOK.refused("none at all", MISSING, Workshops::withCustomers, x -> x.suitAt(0));
        });
    }

    private static String positions(TailorWorkshop x) {
        StringBuilder text = new StringBuilder();
        for (int i = 0; i < x.suitCount(); i++) {
            text.append(x.suitAt(i)).append(' ');
        }
        return text.toString();
    }

    /** Twenty suits, of which the last two are there: each customer and each cloth has its turn. */
    private static TailorWorkshop withManySuits() {
        TailorWorkshop x = new TailorWorkshop();
        for (int i = 0; i < 5; i++) {
            x.addCustomer(i + 1, 20);
        }
        for (int i = 0; i < 20; i++) {
            x.orderSuit(i % 5, i % 4);
            if (i > 1) {
                x.scrap(i - 2);
            }
        }
        return x;
    }

    private static void customerAndCloth() {
        BOOK.promise(21);
        BOOK.test("Returns the customer of a suit.", "Returns the index of the customer.", () -> {
            TailorWorkshop x = withManySuits();
            BOOK.due("the first and the last", x.customerOf(18) + " " + x.customerOf(19), "3 4");
            x.scrap(18);
            BOOK.due("after another is gone", x.customerOf(19), 4);
            BOOK.due(x.customerOf(x.orderSuit(0, 3)), 0);
        });
        noSuit(TailorWorkshop::customerOf);
        BOOK.promise(22);
        BOOK.test("Returns the cloth of a suit.", "Returns the cloth.", () -> {
            TailorWorkshop x = withManySuits();
            BOOK.due("the first and the last", x.clothOf(18) + " " + x.clothOf(19), "2 3");
            x.scrap(18);
            BOOK.due("after another is gone", x.clothOf(19), 3);
            BOOK.due(x.clothOf(x.orderSuit(4, 0)), 0);
        });
        noSuit(TailorWorkshop::clothOf);
    }

    private static void sleeveState() {
        BOOK.promise(23);
        BOOK.test("Returns the state of a sleeve.", () -> {
            TailorWorkshop x = Workshops.withSuit(8, 20);
            x.cut(0, 0);
            Workshops.cutAndSew(x, 0, 15);
            StringBuilder text = new StringBuilder();
            for (int i = 0; i < 16; i++) {
                text.append(x.sleeveState(0, i));
            }
            BOOK.due(text.toString(), "c" + "p".repeat(14) + "s");
        });
        BOOK.test("Returns 'p' if it is planned, 'c' if it is cut, 's' if it is sewn.", () -> {
            TailorWorkshop x = Workshops.withSuit();
            BOOK.due("never cut", x.sleeveState(0, 3), 'p');
            x.cut(0, 3);
            BOOK.due("cut", x.sleeveState(0, 3), 'c');
            x.unpick(0, 3);
            BOOK.due("cut and unpicked", x.sleeveState(0, 3), 'p');
            Workshops.cutAndSew(x, 0, 3);
            BOOK.due("sewn", x.sleeveState(0, 3), 's');
            x.unpick(0, 3);
            BOOK.due("sewn and unpicked", x.sleeveState(0, 3), 'p');
        });
        noSuitOrSleeve(TailorWorkshop::sleeveState);
    }

    private static void sleeveLength() {
        BOOK.promise(24);
        BOOK.test("Returns the length of a cut or sewn sleeve.", "Returns the length.", () -> {
            TailorWorkshop x = Workshops.withSuit();
            x.fit(0, 3, 60);
            x.cut(0, 3);
            BOOK.due("the longest, cut", x.sleeveLength(0, 3), 60);
            x.fit(0, 3, 28);
            BOOK.due("its leg changes", x.sleeveLength(0, 3), 60);
            x.sew(0, 3);
            BOOK.due("sewn", x.sleeveLength(0, 3), 60);
            x.fit(0, 0, 10);
            x.cut(0, 0);
            BOOK.due("the shortest", x.sleeveLength(0, 0), 10);
            x.unpick(0, 3);
            x.cut(0, 3);
            BOOK.due("cut again", x.sleeveLength(0, 3), 28);
        });
        noSuitOrSleeve(TailorWorkshop::sleeveLength);
        whilePlanned(TailorWorkshop::sleeveLength);
    }

    private static void doesFit() {
        BOOK.promise(25);
        BOOK.test("Returns whether a cut or sewn sleeve fits.", () -> {
            TailorWorkshop x = Workshops.withSuit();
            x.cut(0, 1);
            x.fit(0, 1, 21);
            BOOK.due("cut, 1 too short", x.doesFit(0, 1), false);
            x.fit(0, 1, 19);
            BOOK.due("cut, 1 too long", x.doesFit(0, 1), false);
            x.sew(0, 1);
            BOOK.due("sewn, 1 too long", x.doesFit(0, 1), false);
            x.fit(0, 1, 21);
            BOOK.due("sewn, 1 too short", x.doesFit(0, 1), false);
        });
        BOOK.test("Returns true if it fits.", () -> {
            TailorWorkshop x = Workshops.withSuit();
            x.cut(0, 1);
            BOOK.due("cut", x.doesFit(0, 1), true);
            x.sew(0, 1);
            BOOK.due("sewn", x.doesFit(0, 1), true);
            x.fit(0, 1, 21);
            x.fit(0, 1, 20);
            BOOK.due("its leg is as before", x.doesFit(0, 1), true);
            x.fit(0, 0, 30);
            BOOK.due("another leg", x.doesFit(0, 1), true);
        });
        noSuitOrSleeve(TailorWorkshop::doesFit);
        whilePlanned(TailorWorkshop::doesFit);
    }

    private static void sewnSleeves() {
        BOOK.promise(26);
        BOOK.test("Returns the number of sewn sleeves of a suit.", "Returns the number of sleeves.", () -> {
            TailorWorkshop x = Workshops.withSuit(8, 20);
            BOOK.due("none", x.sewnSleeves(0), 0);
            for (int i = 0; i < 16; i++) {
                x.cut(0, i);
                BOOK.due("a cut one is not sewn", x.sewnSleeves(0), i);
                x.sew(0, i);
                BOOK.due(x.sewnSleeves(0), i + 1);
            }
            x.unpick(0, 3);
            BOOK.due("one is unpicked", x.sewnSleeves(0), 15);
        });
        noSuit(TailorWorkshop::sewnSleeves);
    }

    private static void demandCount() {
        BOOK.promise(27);
        BOOK.test("Returns the number of demands of a suit.", "Returns the number of demands.", () -> {
            TailorWorkshop x = Workshops.withSuit(8, 20);
            BOOK.due("none", x.demandCount(0), 0);
            for (int i = 0; i < 12; i++) {
                x.demand(0, 15 - i, i % 2);
                BOOK.due(x.demandCount(0), i + 1);
            }
            Checks.thrownBy(() -> x.demand(0, 0, 1));
            BOOK.due("the most", x.demandCount(0), 12);
            BOOK.due("another suit", x.demandCount(x.orderSuit(0, 0)), 0);
        });
        noSuit(TailorWorkshop::demandCount);
    }

    /** The demands 13 before 14, 12 before 13 and so on: twelve, the most. */
    private static TailorWorkshop withLongChain() {
        TailorWorkshop x = Workshops.withSuit(8, 20);
        for (int i = 13; i > 1; i--) {
            x.demand(0, i, i + 1);
        }
        return x;
    }

    private static void isBefore() {
        BOOK.promise(28);
        BOOK.test("Returns whether a suit demands that one sleeve is sewn before another one, directly or by way of"
                + " other sleeves.", () -> {
            TailorWorkshop x = withLongChain();
            for (int i = 0; i < 16; i++) {
                for (int k = 0; k < 16; k++) {
                    BOOK.due(i + " before " + k, x.isBefore(0, i, k), i < k && i >= 2 && k <= 14);
                }
            }
            TailorWorkshop y = Workshops.withSuit(8, 20);
            for (int i = 12; i > 0; i--) {
                y.demand(0, i, i - 1);
            }
            BOOK.due("from the twelfth down to the first", y.isBefore(0, 12, 0), true);
            BOOK.due("the other way round", y.isBefore(0, 0, 12), false);
        });
        BOOK.test("Returns true if it does, false also for the same sleeve.", () -> {
            TailorWorkshop x = withLongChain();
            x.orderSuit(0, 0);
            for (int i = 0; i < 16; i++) {
                BOOK.due("the same", x.isBefore(0, i, i), false);
            }
            Workshops.cutAndSew(x, 0, 2, 3, 4);
            BOOK.due("sewn ones too", x.isBefore(0, 2, 4), true);
            BOOK.due("another suit", x.isBefore(1, 2, 4), false);
        });
        noSuit((x, suit) -> x.isBefore(suit, 0, 1));
        BOOK.test("Throws `IndexOutOfBoundsException` if the suit has no such sleeve, for either argument", () -> {
            noSleeve((x, suit, sleeve) -> x.isBefore(suit, sleeve, 0));
            noSleeve((x, suit, sleeve) -> x.isBefore(suit, 0, sleeve));
            noSleeve((x, suit, sleeve) -> x.isBefore(suit, sleeve, sleeve));
        });
    }

    private static void canDeliver() {
        BOOK.promise(29);
        BOOK.test("Returns whether a suit can be delivered.", () -> {
            TailorWorkshop x = Workshops.withSuit();
            BOOK.due("all are planned", x.canDeliver(0), false);
            Workshops.cutAndSew(x, 0, 0, 1, 2);
            BOOK.due("one is planned", x.canDeliver(0), false);
            x.cut(0, 3);
            BOOK.due("one is cut", x.canDeliver(0), false);
            x.sew(0, 3);
            x.fit(0, 3, 19);
            BOOK.due("one does not fit", x.canDeliver(0), false);
            Workshops.refit(x, 0, 3, 18);
            BOOK.due("one is 2 shorter than its mirror", x.canDeliver(0), false);
            Workshops.refit(x, 0, 3, 22);
            BOOK.due("one is 2 longer than its mirror", x.canDeliver(0), false);
        });
        BOOK.test("Returns true if it can.", () -> {
            TailorWorkshop x = Workshops.withSewnSuit();
            BOOK.due(x.canDeliver(0), true);
            Workshops.refit(x, 0, 3, 19);
            BOOK.due("one is 1 shorter than its mirror", x.canDeliver(0), true);
            Workshops.refit(x, 0, 2, 18);
            BOOK.due("one is 1 longer than its mirror", x.canDeliver(0), true);
            BOOK.due("the most legs", Workshops.withSewnSuit(8, 60).canDeliver(0), true);
            BOOK.due("the fewest legs", Workshops.withSewnSuit(1, 10).canDeliver(0), true);
        });
        noSuit(TailorWorkshop::canDeliver);
    }

    private static void price() {
        BOOK.promise(30);
        BOOK.test("Returns the price of a suit if all its planned sleeves got the present lengths of their legs.",
                () -> {
            TailorWorkshop x = Workshops.withSuit();
            x.fit(0, 3, 31);
            BOOK.due("planned", x.price(0), 91);
            x.cut(0, 3);
            x.fit(0, 3, 20);
            BOOK.due("a cut one has its own", x.price(0), 91);
            x.sew(0, 3);
            BOOK.due("a sewn one too", x.price(0), 91);
            x.unpick(0, 3);
            BOOK.due("unpicked", x.price(0), 80);
        });
        BOOK.test("Returns the price.", () -> {
            TailorWorkshop x = Workshops.withSuit(8, 60);
            for (int i = 0; i < 12; i++) {
                BOOK.due(x.price(0), 960 + 3 * i);
                x.demand(0, i, 15);
            }
            BOOK.due("the greatest", x.price(0), 996);
            BOOK.due("the smallest", Workshops.withSuit(1, 10).price(0), 20);
        });
        noSuit(TailorWorkshop::price);
    }

    private static void sleevesLeft() {
        BOOK.promise(31);
        BOOK.test("Returns the number of sleeves of a suit that are not sewn.",
                "Returns the number of sleeves.", () -> {
            TailorWorkshop x = Workshops.withSuit(8, 20);
            BOOK.due("all", x.sleevesLeft(0), 16);
            for (int i = 15; i >= 0; i--) {
                x.cut(0, i);
                BOOK.due("a cut one is left", x.sleevesLeft(0), i + 1);
                x.sew(0, i);
                BOOK.due(x.sleevesLeft(0), i);
            }
            x.unpick(0, 3);
            BOOK.due("one is unpicked", x.sleevesLeft(0), 1);
        });
        noSuit(TailorWorkshop::sleevesLeft);
    }

    private interface Order {
        String of(TailorWorkshop x);
    }

    private static void orders(Order order) {
        TailorWorkshop x = Workshops.withSuit();
        BOOK.due("no demands", order.of(x), "0,1,2,3");
        x.demand(0, 3, 0);
        BOOK.due(order.of(x), "1,2,3,0");
        x.demand(0, 2, 1);
        BOOK.due(order.of(x), "2,1,3,0");
        x.demand(0, 3, 1);
        BOOK.due(order.of(x), "2,3,0,1");
        x.cut(0, 3);
        BOOK.due("a cut one", order.of(x), "2,3,0,1");
        x.sew(0, 3);
        BOOK.due("a sewn one", order.of(x), "0,2,1");
        Workshops.cutAndSew(x, 0, 0);
        BOOK.due(order.of(x), "2,1");
        Workshops.cutAndSew(x, 0, 2, 1);
        BOOK.due("all are sewn", order.of(x), "");
        TailorWorkshop y = Workshops.withSuit(8, 20);
        BOOK.due("the most sleeves", order.of(y), "0,1,2,3,4,5,6,7,8,9,10,11,12,13,14,15");
        for (int i = 0; i < 6; i++) {
            y.demand(0, 15, i);
            y.demand(0, 15 - i, 14 - i);
        }
        BOOK.due("the most demands", order.of(y), "6,7,8,15,0,1,2,3,4,5,14,13,12,11,10,9");
        TailorWorkshop z = Workshops.withSuit(8, 20);
        for (int i = 15; i > 3; i--) {
            z.demand(0, i, i - 1);
        }
        BOOK.due("each holds back the next", order.of(z), "0,1,2,15,14,13,12,11,10,9,8,7,6,5,4,3");
        for (int set = 1; set < 500; set++) {
            mixedDemands(order, set);
        }
    }

    /** Twelve demands that are spread over sixteen sleeves, other ones for each set. */
    private static void mixedDemands(Order order, int set) {
        TailorWorkshop x = Workshops.withSuit(8, 20);
        boolean[][] isBefore = new boolean[16][16];
        long seed = set;
        for (int i = 0; i < 40; i++) {
            seed = seed * 6364136223846793005L + 1442695040888963407L;
            int first = (int) (seed >>> 40 & 15);
            int second = (int) (seed >>> 50 & 15);
            isBefore[first][second] |= Checks.thrownBy(() -> x.demand(0, first, second)).startsWith("answer");
        }
        BOOK.due("the set " + set, order.of(x), lowestFirst(isBefore));
    }

    private static String lowestFirst(boolean[][] isBefore) {
        StringBuilder text = new StringBuilder();
        boolean[] isDone = new boolean[16];
        for (int i = 0; i < 16; i++) {
            int next = 0;
            while (isDone[next] || isHeldBack(isBefore, isDone, next)) {
                next++;
            }
            isDone[next] = true;
            text.append(i == 0 ? "" : ",").append(next);
        }
        return text.toString();
    }

    private static boolean isHeldBack(boolean[][] isBefore, boolean[] isDone, int sleeve) {
        for (int i = 0; i < 16; i++) {
            if (isBefore[i][sleeve] && !isDone[i]) {
                return true;
            }
        }
        return false;
    }

    private static TailorWorkshop withTwoLeft() {
        TailorWorkshop x = Workshops.withSuit();
        x.demand(0, 3, 1);
        Workshops.cutAndSew(x, 0, 0, 2);
        return x;
    }

    private static void positions(SleeveCall call) {
        BOOK.test("`position`: the position, counted from 0", () -> {
            BOOK.due("the first", call.on(withTwoLeft(), 0, 0), 3);
            BOOK.due("the last", call.on(withTwoLeft(), 0, 1), 1);
            BOOK.due("the last of all", call.on(Workshops.withSuit(8, 20), 0, 15), 15);
        });
        BOOK.test("Returns the number of the leg.", () -> {
            BOOK.due(call.on(withTwoLeft(), 0, 0), 3);
            BOOK.due(call.on(Workshops.withSuit(), 0, 0), 0);
        });
        noSuit((x, suit) -> call.on(x, suit, 0));
        BOOK.test("Throws `IndexOutOfBoundsException` if there is no such position", () -> {
            for (int position : Workshops.outside(2)) {
                BOOK.refused("position " + position, OUTSIDE, SuitsTest::withTwoLeft, x -> call.on(x, 0, position));
            }
            for (int position : Workshops.outside(16)) {
                BOOK.refused("position " + position, OUTSIDE, () -> Workshops.withSuit(8, 20),
                        x -> call.on(x, 0, position));
            }
            BOOK.refused("all are sewn", OUTSIDE, Workshops::withSewnSuit, x -> call.on(x, 0, 0));
        });
    }

    private static void sewingOrder() {
        BOOK.promise(32);
        BOOK.test("Returns a sleeve of the first sewing order of a suit, found by taking the lowest possible sleeve"
                + " again and again.", () -> orders(x -> Views.orderOf(x, 0)));
        positions(TailorWorkshop::sewingOrder);
    }

    private static void sewingOrderByQueue() {
        BOOK.promise(33);
        BOOK.test("Returns the same as sewingOrder, found with a priority queue of the sleeves that nothing holds"
                + " back.",
                () -> orders(x -> Views.orderByQueueOf(x, 0)));
        positions(TailorWorkshop::sewingOrderByQueue);
    }

    private static void rounds() {
        BOOK.promise(34);
        BOOK.test("Returns the smallest number of rounds in which the sleeves of a suit that are not sewn can be"
                + " sewn, if in a round any number of sleeves can be sewn, but a sleeve only in a later round than"
                + " all sleeves that must be sewn before it.", () -> {
            TailorWorkshop x = Workshops.withSuit();
            BOOK.due("no demands", x.rounds(0), 1);
            x.demand(0, 1, 0);
            BOOK.due("one before one", x.rounds(0), 2);
            x.demand(0, 3, 2);
            BOOK.due("side by side", x.rounds(0), 2);
            x.demand(0, 0, 3);
            BOOK.due("one after the other", x.rounds(0), 4);
            x.demand(0, 1, 2);
            BOOK.due("a shorter way too", x.rounds(0), 4);
            Workshops.cutAndSew(x, 0, 1);
            BOOK.due("a sewn one holds back none", x.rounds(0), 3);
            BOOK.due("all demands in a chain", withLongChain().rounds(0), 13);
        });
        BOOK.test("Returns the number of rounds, 0 if all sleeves are sewn.", () -> {
            TailorWorkshop x = Workshops.withSewnSuit(8, 20);
            BOOK.due("all are sewn", x.rounds(0), 0);
            x.unpick(0, 7);
            BOOK.due("one is planned", x.rounds(0), 1);
            x.cut(0, 7);
            BOOK.due("one is cut", x.rounds(0), 1);
            x.sew(0, 7);
            BOOK.due("all are sewn again", x.rounds(0), 0);
        });
        noSuit(TailorWorkshop::rounds);
    }

    private static void needed(SuitCall call) {
        TailorWorkshop x = Workshops.withSuit();
        BOOK.due("all are planned", call.on(x, 0), 88);
        x.fit(0, 1, 25);
        BOOK.due("one is longer", call.on(x, 0), 93);
        x.cut(0, 1);
        BOOK.due("one is cut", call.on(x, 0), 66);
        x.fit(0, 1, 60);
        BOOK.due("one is cut, its leg longer", call.on(x, 0), 66);
        x.sew(0, 1);
        BOOK.due("one is sewn", call.on(x, 0), 66);
        x.fit(0, 1, 10);
        BOOK.due("one is sewn, its leg shorter", call.on(x, 0), 66);
        x.unpick(0, 1);
        BOOK.due("one is unpicked", call.on(x, 0), 78);
    }

    private static void leastAndMost(SuitCall call) {
        BOOK.due("none", call.on(Workshops.withSewnSuit(), 0), 0);
        BOOK.due("none of the most legs", call.on(Workshops.withSewnSuit(8, 60), 0), 0);
        BOOK.due("the most", call.on(Workshops.withSuit(8, 60), 0), 16 * 62);
        BOOK.due("the least of all", call.on(Workshops.withSuit(1, 10), 0), 24);
    }

    private static void clothNeeded() {
        BOOK.promise(35);
        BOOK.test("Returns the centimetres of cloth that all planned sleeves of a suit need, added sleeve by sleeve.",
                () -> needed(TailorWorkshop::clothNeeded));
        BOOK.test("Returns the number of centimetres.", () -> leastAndMost(TailorWorkshop::clothNeeded));
        noSuit(TailorWorkshop::clothNeeded);
    }

    private static void clothNeededByDifference() {
        BOOK.promise(36);
        BOOK.test("Returns the same number as clothNeeded: what all sleeves would need with the present lengths of the"
                + " legs, minus what the cut and sewn ones would need.",
                () -> needed(TailorWorkshop::clothNeededByDifference));
        BOOK.test("Returns the number of centimetres.", () -> leastAndMost(TailorWorkshop::clothNeededByDifference));
        noSuit(TailorWorkshop::clothNeededByDifference);
    }
}

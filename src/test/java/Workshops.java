import java.util.stream.IntStream;

/** Workshops in the states that several tests start from, and the numbers that are wrong nearly everywhere. */
final class Workshops {
    private Workshops() {
    }

    /** Customer 0 has two pairs of legs of 20, and the suit 0 is of the cloth 0, of which there are 999. */
    static TailorWorkshop withSuit() {
        return withSuit(2, 20);
    }

    static TailorWorkshop withSuit(int pairs, int length) {
        TailorWorkshop x = new TailorWorkshop();
        x.buyCloth(0, 999);
        x.addCustomer(pairs, length);
        x.orderSuit(0, 0);
        return x;
    }

    /** As withSuit, but all sleeves of the suit are sewn, from twice as much cloth. */
    static TailorWorkshop withSewnSuit() {
        return withSewnSuit(2, 20);
    }

    static TailorWorkshop withSewnSuit(int pairs, int length) {
        TailorWorkshop x = withSuit(pairs, length);
        x.buyCloth(0, 999);
        cutAndSew(x, 0, IntStream.range(0, 2 * pairs).toArray());
        return x;
    }

    /** As withSuit, but six suits have been ordered, and those with the ids 2 and 5 are gone again. */
    static TailorWorkshop withGoneSuits() {
        TailorWorkshop x = withSuit();
        for (int i = 1; i < 6; i++) {
            x.orderSuit(0, 0);
        }
        x.scrap(2);
        x.scrap(5);
        return x;
    }

    /** The customers 0 and 1 have one pair and eight pairs of legs of 20. */
    static TailorWorkshop withCustomers() {
        TailorWorkshop x = new TailorWorkshop();
        x.addCustomer(1, 20);
        x.addCustomer(8, 20);
        return x;
    }

    static void cutAndSew(TailorWorkshop x, int suit, int... sleeves) {
        for (int sleeve : sleeves) {
            x.cut(suit, sleeve);
            x.sew(suit, sleeve);
        }
    }

    /** Gives a cut or sewn sleeve the new length of its leg. */
    static void refit(TailorWorkshop x, int suit, int sleeve, int length) {
        x.fit(x.customerOf(suit), sleeve, length);
        x.unpick(suit, sleeve);
        cutAndSew(x, suit, sleeve);
    }

    static void type(TailorWorkshop x, String text) {
        for (char character : text.toCharArray()) {
            x.type(character);
        }
    }

    static int run(TailorWorkshop x, String text) {
        type(x, text);
        return x.runScript();
    }

    static String thrownByRun(TailorWorkshop x, String text) {
        type(x, text);
        return Checks.thrownBy(x::runScript);
    }

    /** Adds what a refused call could spoil unseen. */
    static TailorWorkshop dressed(TailorWorkshop x) {
        return withAnotherSnapshot(withTexts(withFaults(x)));
    }

    /** Adds an error position and a failed command, neither of them 0. */
    static TailorWorkshop withFaults(TailorWorkshop x) {
        thrownByRun(x, "buy 0 1;;");
        thrownByRun(x, (x.customerCount() == 0 ? "customer 1 20" : "fit 0 0 20") + ";fit 9 0 20");
        return x;
    }

    /** Adds an output text, if there is a suit, and a script that is typed but not run. */
    static TailorWorkshop withTexts(TailorWorkshop x) {
        if (x.suitCount() > 0) {
            x.renderSuit(x.suitAt(0));
        }
        type(x, "buy 1 7");
        return x;
    }

    /** Adds a snapshot that differs from what stands. */
    static TailorWorkshop withAnotherSnapshot(TailorWorkshop x) {
        if (x.customerCount() == 0) {
            x.addCustomer(1, 33);
        } else {
            x.fit(0, 0, x.legLength(0, 0) == 60 ? 59 : 60);
        }
        x.save();
        x.undo();
        return x;
    }

    /** Numbers that are not among the first so many from 0 on, those among them that a narrower type takes for one. */
    static int[] outside(int count) {
        return notBetween(0, count - 1);
    }

    static int[] notBetween(int low, int high) {
        IntStream near = IntStream.of(low - 1, low - 2, high + 1, high + 2, -high, 0, 4, 16, 31, 32, 33, -32);
        IntStream wrapped = IntStream.of(low + 256, low + 65536, high + 65536, low - 65536, Integer.MIN_VALUE,
                Integer.MIN_VALUE + low, Integer.MAX_VALUE);
        return IntStream.concat(near, wrapped).filter(i -> i < low || i > high).distinct().toArray();
    }
}

/** Workshops in the states that several tests start from. */
final class Workshops {
    private Workshops() {
    }

    /** Customer 0 has two pairs of legs of 20, and the suit 0 is of the cloth 0, of which there are 999. */
    static TailorWorkshop withSuit() {
        return withSuit(2, 20);
    }

    static TailorWorkshop withSuit(int pairs, int length) {
        TailorWorkshop x = new TailorWorkshop();
        x.buyCloth(0, 999);
        x.addCustomer(pairs, length);
        x.orderSuit(0, 0);
        return x;
    }

    static void cutAndSew(TailorWorkshop x, int suit, int... sleeves) {
        for (int sleeve : sleeves) {
            x.cut(suit, sleeve);
            x.sew(suit, sleeve);
        }
    }

    static void type(TailorWorkshop x, String text) {
        for (char character : text.toCharArray()) {
            x.type(character);
        }
    }

    static int run(TailorWorkshop x, String text) {
        type(x, text);
        return x.runScript();
    }
}

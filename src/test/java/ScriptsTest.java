import java.util.NoSuchElementException;

/** Promises 45 to 51: output and scripts. */
public final class ScriptsTest {
    private static final Checks CHECKS = new Checks();
    private static final Class<NoSuchElementException> MISSING = NoSuchElementException.class;
    private static final Class<IllegalArgumentException> ARGUMENT = IllegalArgumentException.class;
    private static final Class<IllegalStateException> STATE = IllegalStateException.class;

    private ScriptsTest() {
    }

    public static void main(String[] arguments) {
        renderSuit();
        renderOrder();
        outputAt();
        type();
        commands();
        wholeScripts();
        wrongForms();
        failedCommands();
        scriptsThatChangeNothing();
        CHECKS.end();
    }

    private static void rendered(int promise, TailorWorkshop x, int length, String due) {
        CHECKS.due(promise, length, due.length());
        CHECKS.due(promise, Views.output(x), due);
    }

    private static void renderSuit() {
        TailorWorkshop x = Workshops.withSuit();
        rendered(45, x, x.renderSuit(0), ". .|. .");
        Workshops.cutAndSew(x, 0, 0);
        x.fit(0, 1, 21);
        x.cut(0, 1);
        x.fit(0, 3, 30);
        Workshops.cutAndSew(x, 0, 3);
        rendered(45, x, x.renderSuit(0), "20s 21c|. 30s");
        for (int suit : new int[] {-1, 1, Integer.MIN_VALUE, Integer.MAX_VALUE}) {
            CHECKS.refused(45, x, MISSING, () -> x.renderSuit(suit));
        }
        TailorWorkshop y = Workshops.withSuit(1, 10);
        rendered(45, y, y.renderSuit(0), ". .");
        TailorWorkshop z = Workshops.withSuit(8, 10);
        for (int i = 0; i < 16; i++) {
            z.cut(0, i);
        }
        String pair = "10c 10c";
        rendered(45, z, z.renderSuit(0), (pair + "|").repeat(7) + pair);
    }

    private static void renderOrder() {
        TailorWorkshop x = Workshops.withSuit();
        x.demand(0, 3, 1);
        rendered(46, x, x.renderOrder(0), "0,2,3,1");
        Workshops.cutAndSew(x, 0, 3);
        rendered(46, x, x.renderOrder(0), "0,1,2");
        Workshops.cutAndSew(x, 0, 0, 2);
        rendered(46, x, x.renderOrder(0), "1");
        for (int suit : new int[] {-1, 1, Integer.MIN_VALUE, Integer.MAX_VALUE}) {
            CHECKS.refused(46, x, MISSING, () -> x.renderOrder(suit));
        }
        Workshops.cutAndSew(x, 0, 1);
        rendered(46, x, x.renderOrder(0), "");
        TailorWorkshop y = Workshops.withSuit(8, 20);
        rendered(46, y, y.renderOrder(0), "0,1,2,3,4,5,6,7,8,9,10,11,12,13,14,15");
    }

    private static void outputAt() {
        TailorWorkshop x = Workshops.withSuit(1, 20);
        CHECKS.refused(47, x, IndexOutOfBoundsException.class, () -> x.outputAt(0));
        x.renderSuit(0);
        CHECKS.due(47, x.outputAt(0), '.');
        CHECKS.due(47, x.outputAt(1), ' ');
        CHECKS.due(47, x.outputAt(2), '.');
        for (int index : new int[] {-1, 3, Integer.MIN_VALUE, Integer.MAX_VALUE}) {
            CHECKS.refused(47, x, IndexOutOfBoundsException.class, () -> x.outputAt(index));
        }
        x.cut(0, 1);
        CHECKS.due(47, "the text stays until it is replaced", Views.output(x), ". .");
        x.undo();
        x.save();
        x.renderOrder(0);
        x.restore();
        CHECKS.due(47, "undo and restore leave it", Views.output(x), "0,1");
    }

    private static void type() {
        TailorWorkshop x = new TailorWorkshop();
        for (char wrong : new char[] {0, 9, 31, 127, 128, 255, 0xffff}) {
            CHECKS.refused(48, x, ARGUMENT, () -> x.type(wrong));
        }
        for (int i = 1; i <= 60; i++) {
            CHECKS.due(48, x.type(i % 2 == 0 ? ' ' : '~'), i);
        }
        CHECKS.refused(48, x, STATE, () -> x.type(' '));
        CHECKS.refused(48, "the character goes ahead", x, ARGUMENT, () -> x.type((char) 31));
        CHECKS.due(48, Checks.thrownBy(x::runScript), "IllegalArgumentException");
        CHECKS.due(48, "the buffer is empty again", x.type('a'), 1);
    }

    private static void commands() {
        TailorWorkshop x = new TailorWorkshop();
        CHECKS.due(49, Workshops.run(x, "buy 3 999"), 1);
        CHECKS.due(49, x.stock(3), 999);
        CHECKS.due(49, Workshops.run(x, "customer 2 20"), 1);
        CHECKS.due(49, x.pairs(0), 2);
        CHECKS.due(49, Workshops.run(x, "fit 0 3 021"), 1);
        CHECKS.due(49, x.legLength(0, 3), 21);
        CHECKS.due(49, Workshops.run(x, "suit 0 3"), 1);
        CHECKS.due(49, x.clothOf(0), 3);
        CHECKS.due(49, Workshops.run(x, "cut 000 3"), 1);
        CHECKS.due(49, x.sleeveState(0, 3), 'c');
        CHECKS.due(49, Workshops.run(x, "order 0 3<1"), 1);
        CHECKS.due(49, x.isBefore(0, 3, 1), true);
        CHECKS.due(49, Workshops.run(x, "sew 0 3"), 1);
        CHECKS.due(49, x.sleeveState(0, 3), 's');
        CHECKS.due(49, Workshops.run(x, "unpick 0 3"), 1);
        CHECKS.due(49, x.wasteTotal(), 23);
        Workshops.cutAndSew(x, 0, 0, 2, 3, 1);
        CHECKS.due(49, Workshops.run(x, "deliver 0"), 1);
        CHECKS.due(49, x.income(), 84);
        x.orderSuit(0, 0);
        CHECKS.due(49, Workshops.run(x, "scrap 1"), 1);
        CHECKS.due(49, x.suitCount(), 0);
    }

    private static void wholeScripts() {
        TailorWorkshop x = new TailorWorkshop();
        CHECKS.due(49, Workshops.run(x, "customer 1 20;buy 0 90;suit 0 0;cut 0 0;sew 0 0"), 5);
        CHECKS.due(49, x.stock(0), 68);
        CHECKS.due(49, "a script is one change", x.undo(), 0);
        CHECKS.due(49, Views.room(x), "stocks 0 0 0 0 totals 0 0 0 0 0");
        CHECKS.due(49, Workshops.run(x, "buy 0 1;buy 0 1;buy 0 1;buy 0 1;buy 0 1;buy 0 1;buy 1 123"), 7);
        CHECKS.due(49, x.stock(0), 6);
        CHECKS.due(49, x.stock(1), 123);
        CHECKS.due(49, "the buffer is empty", x.type('b'), 1);
    }

    private static void wrongForm(String script, int position) {
        TailorWorkshop x = new TailorWorkshop();
        Workshops.type(x, script);
        CHECKS.due(49, script, Checks.thrownBy(x::runScript), "IllegalArgumentException");
        CHECKS.due(50, script, x.errorPosition(), position);
        CHECKS.due(49, script + " and the buffer", x.type('a'), 1);
        CHECKS.due(49, script + " and the state", Views.room(x), "stocks 0 0 0 0 totals 0 0 0 0 0");
        CHECKS.refused(51, x, MISSING, x::failedCommand);
    }

    private static void wrongForms() {
        wrongForm("", 0);
        wrongForm(" ", 0);
        wrongForm("?", 0);
        wrongForm(";", 0);
        wrongForm("Buy 0 1", 0);
        wrongForm("b", 1);
        wrongForm("cu", 2);
        wrongForm("cub 0", 2);
        wrongForm("cus", 3);
        wrongForm("cut", 3);
        wrongForm("cut0", 3);
        wrongForm("cut ", 4);
        wrongForm("cut  0", 4);
        wrongForm("s", 1);
        wrongForm("st", 1);
        wrongForm("sc ", 2);
        wrongForm("buy 0 1;", 8);
        wrongForm("buy 0 1;;", 8);
        wrongForm("buy 0 1; buy 0 1", 8);
        wrongForm("buy 0 1 ", 7);
        wrongForm("buy 0 1;buy 0", 13);
        wrongForm("buy 00 1", 5);
        wrongForm("buy # 1", 4);
        wrongForm("buy 0 @", 6);
        wrongForm("buy 0 1000", 9);
        wrongForm("buy 0 -1", 6);
        wrongForm("buy 0 /", 6);
        wrongForm("buy 0 1:", 7);
        wrongForm("customer 12 20", 10);
        wrongForm("fit 0 1", 7);
        wrongForm("fit 0 1 ", 8);
        wrongForm("fit 0 1234", 9);
        wrongForm("suit 0 12", 8);
        wrongForm("suit 10 1", 6);
        wrongForm("sew 1234 1", 7);
        wrongForm("unpick 1;", 8);
        wrongForm("order 0 1", 9);
        wrongForm("order 0 1 2", 9);
        wrongForm("order 0 123<", 12);
        wrongForm("order 0 1<2<3", 11);
        wrongForm("deliver x", 8);
        wrongForm("scrap 0 0", 7);
        wrongForm("buy 9 9;deliver 999;xyz", 20);
    }

    private static void failedCommands() {
        TailorWorkshop x = new TailorWorkshop();
        x.buyCloth(0, 100);
        CHECKS.refused(51, x, MISSING, x::failedCommand);
        fails(x, "buy 9 1", 0);
        fails(x, "customer 1 20;buy 0 1;customer 9 20;buy 9 9", 2);
        CHECKS.due(51, "the id of the next suit too", x.addCustomer(1, 20), 0);
        fails(x, "suit 0 0;cut 0 0;scrap 0;scrap 0", 3);
        CHECKS.due(51, x.orderSuit(0, 0), 0);
        fails(x, "cut 0 0;cut 0 1;sew 0 0;sew 0 1;deliver 0;fit 0 0 9", 5);
        fails(x, "sew 0 0", 0);
        fails(x, "unpick 0 0", 0);
        fails(x, "order 0 0<0", 0);
        fails(x, "fit 0 0 61", 0);
        fails(x, "suit 1 0", 0);
        fails(x, "order 0 0<1;order 0 1<0", 1);
        CHECKS.refused(50, x, MISSING, x::errorPosition);
        Workshops.run(x, "buy 0 1");
        CHECKS.due(51, "a later script that runs leaves it", x.failedCommand(), 1);
        Workshops.type(x, "buy 0 1;buy 0 1;but");
        CHECKS.due(49, Checks.thrownBy(x::runScript), "IllegalArgumentException");
        CHECKS.due(51, "one of a wrong form too", x.failedCommand(), 1);
        CHECKS.due(50, x.errorPosition(), 18);
        fails(x, "buy 0 1;buy 0 0", 1);
        CHECKS.due(50, "a failed command leaves the error position", x.errorPosition(), 18);
        x.undo();
        CHECKS.due(50, "undo leaves it", x.errorPosition(), 18);
        CHECKS.due(51, "undo leaves it", x.failedCommand(), 1);
        fails(x, "buy 0 0", 0);
        CHECKS.due(51, x.failedCommand(), 0);
    }

    private static void fails(TailorWorkshop x, String script, int command) {
        String before = Views.room(x);
        Workshops.type(x, script);
        CHECKS.due(49, script, Checks.thrownBy(x::runScript), "IllegalStateException");
        CHECKS.due(51, script, x.failedCommand(), command);
        CHECKS.due(49, script + " takes no effect", Views.room(x), before);
    }

    private static void scriptsThatChangeNothing() {
        TailorWorkshop x = new TailorWorkshop();
        x.buyCloth(0, 5);
        fails(x, "buy 0 1;buy 0 0", 1);
        Workshops.type(x, "buy 0 1;");
        CHECKS.due(49, Checks.thrownBy(x::runScript), "IllegalArgumentException");
        CHECKS.due(52, "neither is a change", x.undo(), 0);
        CHECKS.due(52, x.stock(0), 0);
        Workshops.type(x, "buy 0 7");
        x.save();
        x.restore();
        CHECKS.due(53, "the snapshot leaves the buffer", x.runScript(), 1);
        CHECKS.due(53, x.stock(0), 7);
        Workshops.type(x, "buy 0 8");
        x.undo();
        CHECKS.due(52, "undo leaves the buffer", x.runScript(), 1);
        CHECKS.due(52, x.stock(0), 8);
    }
}

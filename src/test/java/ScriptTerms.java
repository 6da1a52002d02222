/** The sentences of the heading "Terms" on scripts. */
final class ScriptTerms {
    private static final Class<IllegalStateException> STATE = IllegalStateException.class;
    private static final String[] SCRIPTS = {"buy 0 1", "customer 2 20", "fit 0 3 021", "suit 0 3", "cut 10 3",
        "sew 999 0", "unpick 0 33", "order 0 3<1", "order 123 12<1", "deliver 12", "scrap 123",
        "buy 0 1;scrap 0;cut 0 9"};

    private ScriptTerms() {
    }

    static void tell(Book book) {
        buffer(book);
        repetitions(book);
        separators(book);
        forms(book);
        numbers(book);
        arguments(book);
        allOrNone(book);
        errorPositions(book);
    }

    /** The script is run on an empty workshop, where it has just the form or its error at just this position. */
    private static void due(Book book, String script, int position) {
        TailorWorkshop x = new TailorWorkshop();
        book.due("<" + script + ">", Workshops.thrownByRun(x, script), "IllegalArgumentException");
        book.due("<" + script + ">, its error position", x.errorPosition(), position);
    }

    private static void dueIsForm(Book book, String script) {
        TailorWorkshop x = new TailorWorkshop();
        Workshops.thrownByRun(x, script);
        book.due("<" + script + ">", Checks.thrownBy(x::errorPosition), "NoSuchElementException");
    }

    private static TailorWorkshop withBuffer(int length) {
        TailorWorkshop x = new TailorWorkshop();
        Workshops.type(x, "buy 0 1;".repeat(8).substring(0, length));
        return x;
    }

    private static void buffer(Book book) {
        book.test("A script is typed into a buffer of at most 60 characters and then run.", () -> {
            book.due("the last place", withBuffer(59).type('9'), 60);
            book.refusedAsMade("full", STATE, () -> withBuffer(60), x -> x.type('9'));
            TailorWorkshop x = withBuffer(55);
            Checks.thrownBy(() -> x.type((char) 31));
            book.due("run", x.runScript(), 7);
            book.due("run", x.stock(0), 7);
            TailorWorkshop y = new TailorWorkshop();
            book.due("60 characters",
                    Workshops.run(y, "buy 0 999;buy 1 999;buy 2 999;buy 3 999;buy 0 999;buy 1 99"), 6);
            book.due("and their last", y.stock(1), 999 + 99);
            for (int i = 1; i <= 60; i++) {
                book.due("typed anew", y.type('~'), i);
            }
        });
    }

    private static void repetitions(Book book) {
        book.test("It has the form below, where braces mean zero or more repetitions, brackets an optional part, and"
                + " a bar an alternative.", () -> {
            for (String command : SCRIPTS) {
                dueIsForm(book, command);
                dueIsForm(book, command + ";" + command);
            }
            for (int more = 0; more <= 6; more++) {
                book.due(more + " repetitions",
                        Workshops.run(new TailorWorkshop(), "buy 0 1" + ";buy 0 1".repeat(more)),
                        more + 1);
            }
            due(book, "", 0);
        });
    }

    private static void separators(Book book) {
        book.test("script = command { \";\" command }", () -> {
            due(book, ";", 0);
            due(book, "buy 0 1;", 8);
            due(book, ";buy 0 1", 0);
            due(book, "buy 0 1;;buy 0 1", 8);
            due(book, "buy 0 1; buy 0 1", 8);
            due(book, "buy 0 1 ;buy 0 1", 7);
            due(book, "buy 0 1,buy 0 1", 7);
            due(book, "buy 0 1buy 0 1", 7);
            due(book, "buy 0 1:buy 0 1", 7);
            due(book, "buy 0 1<buy 0 1", 7);
            due(book, "buy 0 1;buy 0 1;", 16);
            due(book, " buy 0 1", 0);
            dueIsForm(book, "buy 0 1;fit 0 0 10;suit 0 0;order 0 0<1;cut 0 0;scrap 0");
        });
    }

    private static void forms(Book book) {
        book.test("command = \"buy \" digit \" \" number | \"customer \" digit \" \" number"
                + " | \"fit \" digit \" \" number \" \" number | \"suit \" digit \" \" digit"
                + " | ( \"cut \" | \"sew \" | \"unpick \" ) number \" \" number"
                + " | \"order \" number \" \" number \"<\" number | \"deliver \" number | \"scrap \" number", () -> {
            for (String command : new String[] {"buy 9 999", "customer 9 999", "fit 9 999 999", "suit 9 9",
                "cut 999 999", "sew 999 999", "unpick 999 999", "order 999 999<999", "deliver 999", "scrap 999"}) {
                dueIsForm(book, command);
                due(book, command + "0", command.length());
                due(book, command + " ", command.length());
                due(book, command + "<", command.length());
                due(book, command.replaceFirst(" ", ""), command.indexOf(' '));
                due(book, command.replaceFirst(" ", "  "), command.indexOf(' ') + 1);
                due(book, command.substring(0, 1).toUpperCase() + command.substring(1), 0);
            }
            due(book, "buy 10 1", 5);
            due(book, "customer 10 20", 10);
            due(book, "fit 10 0 20", 5);
            due(book, "suit 10 0", 6);
            due(book, "suit 0 10", 8);
            due(book, "order 0 0 1", 9);
            due(book, "cut 0<0", 5);
            due(book, "deliver 0 0", 9);
            due(book, "scrap 0<0", 7);
        });
    }

    private static void numbers(Book book) {
        book.test("number = digit [ digit [ digit ] ]", () -> {
            for (String number : new String[] {"7", "07", "007"}) {
                TailorWorkshop x = new TailorWorkshop();
                Workshops.run(x, "buy 0 " + number);
                book.due(number, x.stock(0), 7);
            }
            for (String number : new String[] {"1", "10", "11", "99", "100", "123", "909", "999"}) {
                TailorWorkshop x = new TailorWorkshop();
                Workshops.run(x, "buy 0 " + number);
                book.due(number, x.stock(0), Integer.parseInt(number));
            }
            due(book, "buy 0 ", 6);
            due(book, "buy 0 0007", 9);
            due(book, "buy 0 1000", 9);
            due(book, "buy 0 -1", 6);
            due(book, "buy 0 +1", 6);
            due(book, "buy 0 1.0", 7);
            due(book, "buy 0 /", 6);
            due(book, "buy 0 :", 6);
            due(book, "buy 0 9/", 7);
            due(book, "buy / 1", 4);
            due(book, "buy : 1", 4);
        });
    }

    /** Three suits of two customers: 2 is sewn, of 1 the sleeve 2 is cut and 3 sewn, of 0 the sleeve 1 is cut. */
    private static TailorWorkshop base() {
        TailorWorkshop x = new TailorWorkshop();
        x.buyCloth(0, 999);
        x.addCustomer(1, 20);
        x.addCustomer(2, 30);
        x.orderSuit(1, 0);
        x.orderSuit(1, 0);
        x.orderSuit(0, 0);
        Workshops.cutAndSew(x, 2, 0, 1);
        x.cut(1, 2);
        x.cut(0, 1);
        Workshops.cutAndSew(x, 1, 3);
        return x;
    }

    private static void arguments(Book book) {
        book.test("The commands stand for buyCloth (cloth, centimetres), addCustomer (pairs, length), fit (customer,"
                + " leg, length), orderSuit (customer, cloth), cut, sew, unpick (suit, sleeve), demand (order: suit,"
                + " first, second), deliver and scrap, with the arguments in the same order.", () -> {
            same(book, "buy 2 123", x -> x.buyCloth(2, 123));
            same(book, "customer 3 21", x -> x.addCustomer(3, 21));
            same(book, "fit 1 3 31", x -> x.fit(1, 3, 31));
            same(book, "suit 0 1", x -> x.orderSuit(0, 1));
            same(book, "cut 0 2", x -> x.cut(0, 2));
            same(book, "sew 1 2", x -> x.sew(1, 2));
            same(book, "sew 0 1", x -> x.sew(0, 1));
            same(book, "unpick 1 3", x -> x.unpick(1, 3));
            same(book, "unpick 0 1", x -> x.unpick(0, 1));
            same(book, "order 1 0<2", x -> x.demand(1, 0, 2));
            same(book, "order 0 3<1", x -> x.demand(0, 3, 1));
            same(book, "deliver 2", x -> x.deliver(2));
            same(book, "scrap 1", x -> x.scrap(1));
        });
    }

    private static void same(Book book, String script, Book.Call call) {
        TailorWorkshop x = base();
        TailorWorkshop y = base();
        book.due(script, Workshops.run(x, script), 1);
        call.on(y);
        book.due(script + ", what stands", Views.room(x), Views.room(y));
        book.due(script + ", that it differs", Views.room(x).equals(Views.room(base())), false);
        book.due(script + ", what each undo gives back", Views.history(x), Views.history(y));
    }

    private static void allOrNone(Book book) {
        book.test("The commands are executed in order, and either all of them take effect or none.", () -> {
            TailorWorkshop x = new TailorWorkshop();
            book.due("in order", Workshops.run(x, "buy 0 22;customer 1 20;suit 0 0;cut 0 1;sew 0 1"), 5);
            book.due("all", Views.room(x), "stocks 0 0 0 0 totals 22 0 0 0 0\ncustomer 0: 20 20\n"
                    + "suit 0 of 0 for 0: p 20s demands 0 order 0");
            none(book, "customer 1 20;suit 0 0;cut 0 1;buy 0 22", 2);
            none(book, "suit 0 0;customer 1 20", 0);
            none(book, "buy 0 22;customer 1 20;suit 0 0;cut 0 1;sew 0 1;scrap 1", 5);
            none(book, "buy 0 22;customer 1 20;suit 0 0;cut 0 1;cut 0 0;scrap 0", 4);
            TailorWorkshop y = new TailorWorkshop();
            book.due("the later ones see the earlier ones",
                    Workshops.run(y, "customer 1 20;suit 0 0;scrap 0;suit 0 1"), 4);
            book.due("and their ids", y.suitAt(0), 1);
        });
    }

    private static void none(Book book, String script, int failed) {
        TailorWorkshop x = new TailorWorkshop();
        book.due(script, Workshops.thrownByRun(x, script), "IllegalStateException");
        book.due(script + ", the failed command", x.failedCommand(), failed);
        book.due(script + ", what stands", Views.room(x), Views.room(new TailorWorkshop()));
        book.due(script + ", what can be undone", Views.history(x), Views.history(new TailorWorkshop()));
    }

    /** Each beginning of each script, each with each sign put in at each place, and put in the place of another. */
    private static void errorPositions(Book book) {
        book.test("The error position of a script that does not have this form is the index of the first character that"
                + " cannot continue any script of this form, or the length of the script if every character can and the"
                + " end comes too early.", () -> {
            byHand(book);
            for (String script : SCRIPTS) {
                for (int at = 0; at <= script.length(); at++) {
                    beginning(book, script.substring(0, at));
                    String rest = script.substring(at);
                    for (char sign = 32; sign <= 126; sign++) {
                        beginning(book, script.substring(0, at) + sign + rest);
                        beginning(book, script.substring(0, at) + sign + rest.substring(rest.isEmpty() ? 0 : 1));
                    }
                }
            }
        });
    }

    private static void beginning(Book book, String text) {
        if (PlainModel.isScript(text)) {
            dueIsForm(book, text);
        } else {
            due(book, text, PlainModel.errorIn(text));
        }
    }

    private static void byHand(Book book) {
        due(book, "", 0);
        due(book, " ", 0);
        due(book, "b", 1);
        due(book, "bx", 1);
        due(book, "c", 1);
        due(book, "cu", 2);
        due(book, "cub 0", 2);
        due(book, "cus", 3);
        due(book, "cut", 3);
        due(book, "cut0", 3);
        due(book, "cut ", 4);
        due(book, "s", 1);
        due(book, "st", 1);
        due(book, "se ", 2);
        due(book, "su 0", 2);
        due(book, "sc ", 2);
        due(book, "d", 1);
        due(book, "fit 0 1", 7);
        due(book, "fit 0 1 ", 8);
        due(book, "order 0 1", 9);
        due(book, "order 0 123<", 12);
        due(book, "order 0 1<2<3", 11);
        due(book, "unpick 1;", 8);
        due(book, "buy 0 1;buy 0", 13);
        due(book, "buy 9 9;deliver 999;xyz", 20);
        due(book, "buy 0 1;".repeat(7) + "buy ", 60);
        due(book, "buy 0 1;".repeat(7) + "buy0", 59);
        due(book, "?" + "buy 0 1;".repeat(7), 0);
    }
}

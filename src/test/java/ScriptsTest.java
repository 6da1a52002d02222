import java.util.NoSuchElementException;

/** Promises 45 to 51: output and scripts. */
public final class ScriptsTest {
    private static final Book BOOK = new Book();
    private static final Class<NoSuchElementException> MISSING = NoSuchElementException.class;
    private static final Class<IllegalArgumentException> ARGUMENT = IllegalArgumentException.class;
    private static final Class<IllegalStateException> STATE = IllegalStateException.class;
    private static final String NOTHING = "stocks 0 0 0 0 totals 0 0 0 0 0";

    private ScriptsTest() {
    }

    public static void main(String[] arguments) {
        renderSuit();
        renderOrder();
        outputAt();
        type();
        runScript();
        errorPosition();
        failedCommand();
        BOOK.end();
    }

    private interface SuitCall {
        Object on(TailorWorkshop x, int suit);
    }

    private static void noSuit(SuitCall call) {
        BOOK.test("Throws `NoSuchElementException` if there is no such suit", () -> {
            for (int suit : Workshops.outside(1)) {
                BOOK.refused("suit " + suit, MISSING, Workshops::withSewnSuit, x -> call.on(x, suit));
            }
            for (int suit : new int[] {2, 5, 6}) {
                BOOK.refused("suit " + suit, MISSING, Workshops::withGoneSuits, x -> call.on(x, suit));
            }
            BOOK.refused("none at all", MISSING, TailorWorkshop::new, x -> call.on(x, 0));
        });
    }

    private static void rendered(String what, TailorWorkshop x, int length, String due) {
        BOOK.due(what + ", its length", length, due.length());
        BOOK.due(what, Views.output(x), due);
    }

    private static void renderSuit() {
        BOOK.promise(45);
        BOOK.test("Replaces the output text by a description of a suit: for each sleeve in order \".\" if it is"
                + " planned, otherwise its length, followed by \"c\" if it is cut and \"s\" if it is sewn, with a"
                + " blank between the sleeves of a pair and \"|\" between pairs, as in \"20s 21c|. 30s\".", () -> {
            TailorWorkshop x = Workshops.withSuit();
            rendered("all are planned", x, x.renderSuit(0), ". .|. .");
            Workshops.cutAndSew(x, 0, 0);
            x.fit(0, 1, 21);
            x.cut(0, 1);
            x.fit(0, 3, 30);
            Workshops.cutAndSew(x, 0, 3);
            x.fit(0, 0, 55);
            rendered("the document's own", x, x.renderSuit(0), "20s 21c|. 30s");
            x.unpick(0, 3);
            rendered("a shorter text replaces a longer one", x, x.renderSuit(0), "20s 21c|. .");
        });
        BOOK.test("Returns the length of the output text.", () -> {
            BOOK.due("the fewest legs", Workshops.withSuit(1, 10).renderSuit(0), 3);
            BOOK.due("the most legs", Workshops.withSuit(8, 10).renderSuit(0), 31);
            TailorWorkshop x = Workshops.withSewnSuit(8, 60);
            rendered("the longest", x, x.renderSuit(0), "60s 60s|".repeat(7) + "60s 60s");
        });
        noSuit(TailorWorkshop::renderSuit);
    }

    private static void renderOrder() {
        BOOK.promise(46);
        BOOK.test("Replaces the output text by the first sewing order of a suit: the numbers of the legs with \",\""
                + " between two.", () -> {
            TailorWorkshop x = Workshops.withSuit();
            x.demand(0, 3, 1);
            rendered("all are planned", x, x.renderOrder(0), "0,2,3,1");
            Workshops.cutAndSew(x, 0, 3);
            x.cut(0, 2);
            rendered("a sewn one is not in it, a cut one is", x, x.renderOrder(0), "0,1,2");
            Workshops.cutAndSew(x, 0, 0);
            x.sew(0, 2);
            rendered("one alone", x, x.renderOrder(0), "1");
        });
        BOOK.test("The text is empty if all sleeves are sewn.", () -> {
            TailorWorkshop x = Workshops.withSewnSuit();
            x.renderSuit(0);
            rendered("all are sewn", x, x.renderOrder(0), "");
        });
        BOOK.test("Returns the length of the output text.", () -> {
            BOOK.due("the least", Workshops.withSewnSuit(8, 20).renderOrder(0), 0);
            TailorWorkshop x = Workshops.withSuit(8, 20);
            rendered("the longest", x, x.renderOrder(0), "0,1,2,3,4,5,6,7,8,9,10,11,12,13,14,15");
        });
        noSuit(TailorWorkshop::renderOrder);
    }

    private static TailorWorkshop withText() {
        TailorWorkshop x = Workshops.withSuit(1, 20);
        x.cut(0, 0);
        x.renderSuit(0);
        return x;
    }

    private static void outputAt() {
        BOOK.promise(47);
        BOOK.test("Returns a character of the output text, which is empty initially.", () -> {
            BOOK.refusedAsMade("empty", IndexOutOfBoundsException.class, TailorWorkshop::new, x -> x.outputAt(0));
            BOOK.refusedAsMade("nothing is rendered", IndexOutOfBoundsException.class, Workshops::withSuit,
                    x -> x.outputAt(0));
            BOOK.due("the first", withText().outputAt(0), '2');
            BOOK.due("the last", withText().outputAt(4), '.');
        });
        BOOK.test("Returns the character.", () -> {
            TailorWorkshop x = withText();
            BOOK.due(Views.output(x), "20c .");
            x.sew(0, 0);
            BOOK.due("the text stays until it is replaced", Views.output(x), "20c .");
            x.scrap(0);
            BOOK.due("also when the suit is gone", Views.output(x), "20c .");
        });
        BOOK.test("Throws `IndexOutOfBoundsException` if there is no such index", () -> {
            for (int index : Workshops.outside(5)) {
                BOOK.refused("index " + index, IndexOutOfBoundsException.class, ScriptsTest::withText,
                        x -> x.outputAt(index));
            }
            BOOK.refusedAsMade("all are sewn", IndexOutOfBoundsException.class, () -> {
                TailorWorkshop x = Workshops.withSewnSuit();
                x.renderSuit(0);
                x.renderOrder(0);
                return x;
            }, x -> x.outputAt(0));
        });
    }

    private static TailorWorkshop withBuffer(String text) {
        TailorWorkshop x = Workshops.dressed(Workshops.withSuit());
        Checks.thrownBy(x::runScript);
        Workshops.type(x, text);
        return x;
    }

    private static void type() {
        BOOK.promise(48);
        BOOK.test("Appends a character to the script buffer.", () -> {
            TailorWorkshop x = withBuffer("buy 1 12");
            x.type('3');
            x.runScript();
            BOOK.due("at the end", x.stock(1), 7 + 123);
        });
        BOOK.test("Returns the length of the script buffer.", () -> {
            TailorWorkshop x = new TailorWorkshop();
            for (int i = 1; i <= 60; i++) {
                BOOK.due(x.type('0'), i);
            }
        });
        BOOK.test("Throws `IllegalArgumentException` if the character code is not between 32 and 126", () -> {
            for (int code = 0; code <= 0xffff; code += code < 300 || code > 0xff00 ? 1 : 0x7f) {
                char wrong = (char) code;
                if (code < 32 || code > 126) {
                    BOOK.refusedAsMade("code " + code, ARGUMENT, () -> withBuffer("buy 1 7"), x -> x.type(wrong));
                } else {
                    BOOK.due("code " + code, new TailorWorkshop().type(wrong), 1);
                }
            }
        });
        BOOK.test("Throws `IllegalStateException` if the script buffer has 60 characters", () -> {
            String script = "buy 1 1;".repeat(6) + "buy 1 1;buy ";
            BOOK.refusedAsMade("full", STATE, () -> withBuffer(script), x -> x.type('1'));
            BOOK.refusedAsMade("full, at the bounds", STATE, () -> withBuffer(script), x -> x.type(' '));
            BOOK.refusedAsMade("full, at the bounds", STATE, () -> withBuffer(script), x -> x.type('~'));
            BOOK.due("59", withBuffer(script.substring(1)).type('1'), 60);
        });
    }

    private static void runScript() {
        BOOK.promise(49);
        BOOK.test("Runs the script in the script buffer.", () -> {
            TailorWorkshop x = new TailorWorkshop();
            Workshops.run(x, "customer 1 20;buy 0 90;suit 0 0;cut 0 0;sew 0 0");
            BOOK.due(Views.room(x), "stocks 68 0 0 0 totals 90 0 0 0 0\ncustomer 0: 20 20\n"
                    + "suit 0 of 0 for 0: 20s p demands 0 order 1");
        });
        BOOK.test("The buffer is empty afterwards, also if an exception is thrown.", () -> {
            TailorWorkshop x = new TailorWorkshop();
            Workshops.run(x, "buy 0 1;buy 1 1");
            BOOK.due("it ran", x.type('b'), 1);
            BOOK.due("of a wrong form", Workshops.thrownByRun(x, "ux"), "IllegalArgumentException");
            BOOK.due("of a wrong form, afterwards", x.type('b'), 1);
            BOOK.due("a command failed", Workshops.thrownByRun(x, "uy 9 1"), "IllegalStateException");
            BOOK.due("a command failed, afterwards", x.type('b'), 1);
            Workshops.type(x, "?".repeat(59));
            BOOK.due("full", Checks.thrownBy(x::runScript), "IllegalArgumentException");
            BOOK.due("empty", Checks.thrownBy(x::runScript), "IllegalArgumentException");
            BOOK.due("empty, where it ended", x.errorPosition(), 0);
            BOOK.due("empty, afterwards", x.type('b'), 1);
        });
        BOOK.test("Returns the number of commands.", () -> {
            for (int commands = 1; commands <= 7; commands++) {
                TailorWorkshop x = new TailorWorkshop();
                BOOK.due("of " + commands, Workshops.run(x, "buy 0 9;".repeat(commands - 1) + "buy 1 1"), commands);
                BOOK.due("each is performed", x.stock(0) + " " + x.stock(1), 9 * (commands - 1) + " 1");
            }
        });
        scriptsRefused();
    }

    private static void scriptsRefused() {
        BOOK.test("Throws `IllegalArgumentException` if the script does not have the required form; errorPosition then"
                + " returns its error position", () -> {
            wrongForm("", 0);
            wrongForm("?", 0);
            wrongForm("buy 0 1;", 8);
            wrongForm("buy 0 1;buy 0 1;buy 0 1x", 23);
            wrongForm("buy 9 9;deliver 999;xyz", 20);
            wrongForm("buy 0 1;".repeat(7) + "buy ", 60);
            wrongForm("buy 0 1;".repeat(7) + "buyx", 59);
        });
        BOOK.test("Throws `IllegalStateException` if the method for a command throws an exception; no command takes"
                + " effect, and failedCommand then returns the index of that command", () -> {
            commandFails("NoSuchElementException", "cut 1 0", "sew 1 0", "unpick 1 0", "order 1 0<1", "deliver 1",
                    "scrap 1");
            commandFails("IndexOutOfBoundsException", "buy 4 1", "fit 1 0 20", "fit 0 4 20", "suit 1 0", "suit 0 4",
                    "cut 0 4", "sew 0 4", "unpick 0 4", "order 0 4<0", "order 0 0<4");
            commandFails("IllegalArgumentException", "buy 0 0", "customer 0 20", "customer 9 20", "customer 1 9",
                    "customer 1 61", "fit 0 0 9", "fit 0 0 61", "order 0 1<1");
            commandFails("IllegalStateException", "sew 0 0", "unpick 0 0", "deliver 0");
            commandFails("UnsupportedOperationException", "cut 2 0");
            commandFailsAfterOthers();
        });
    }

    /** On an empty workshop, so that a command that takes effect is seen. */
    private static void wrongForm(String script, int position) {
        TailorWorkshop x = new TailorWorkshop();
        BOOK.due(script, Workshops.thrownByRun(x, script), "IllegalArgumentException");
        BOOK.due(script + ", its error position", x.errorPosition(), position);
        BOOK.due(script + ", the failed command", Checks.thrownBy(x::failedCommand), "NoSuchElementException");
        BOOK.due(script + ", what stands", Views.room(x), NOTHING);
        BOOK.due(script + ", what can be undone", Views.history(x), Views.history(new TailorWorkshop()));
        BOOK.due(script + ", the buffer", x.type('b'), 1);
        x.addCustomer(1, 20);
        BOOK.due(script + ", the next suit", x.orderSuit(0, 0), 0);
    }

    /** The suit 0, and behind it the suit 2, for whose cloth 1 nothing was bought. */
    private static TailorWorkshop forScripts() {
        TailorWorkshop x = Workshops.withSuit();
        x.orderSuit(0, 0);
        x.orderSuit(0, 1);
        x.scrap(1);
        return x;
    }

    private static void commandFails(String why, String... commands) {
        for (String command : commands) {
            fails(why, command, 0, command);
            fails(why, command, 1, "buy 2 5;" + command + ";buy 2 5");
            fails(why, command, 3, "buy 2 5;suit 0 0;scrap 3;" + command);
        }
    }

    /** What the earlier commands of the same script have done counts. */
    private static void commandFailsAfterOthers() {
        fails("NoSuchElementException", "scrap", 1, "scrap 0;scrap 0");
        fails("IllegalStateException", "suit", 4, "suit 0 0;suit 0 0;suit 0 0;suit 0 0;suit 0 0");
        fails("IllegalStateException", "cut", 1, "cut 0 0;cut 0 0");
        fails("IllegalStateException", "sew", 2, "cut 0 0;sew 0 0;sew 0 0");
        fails("IllegalStateException", "unpick", 2, "cut 0 0;unpick 0 0;unpick 0 0");
        fails("IllegalStateException", "order", 1, "order 0 0<1;order 0 0<1");
        fails("IllegalStateException", "order", 2, "cut 0 0;sew 0 0;order 0 1<0");
        fails("UnsupportedOperationException", "order", 1, "order 0 0<1;order 0 1<0");
        fails("UnsupportedOperationException", "buy", 1, "buy 0 999;buy 0 999;buy 0 1");
        fails("UnsupportedOperationException", "sew", 2, "order 0 0<1;cut 0 1;sew 0 1");
        fails("UnsupportedOperationException", "unpick", 5, "order 0 0<1;cut 0 0;sew 0 0;cut 0 1;sew 0 1;unpick 0 0");
    }

    private static void fails(String why, String command, int index, String script) {
        TailorWorkshop x = forScripts();
        BOOK.due(script + " for " + why, Workshops.thrownByRun(x, script), "IllegalStateException");
        BOOK.due(script + ", the failed command " + command, x.failedCommand(), index);
        BOOK.due(script + ", the error position", Checks.thrownBy(x::errorPosition), "NoSuchElementException");
        BOOK.due(script + ", the buffer", x.type('b'), 1);
        BOOK.due(script + ", what stands", Views.room(x), Views.room(forScripts()));
        BOOK.due(script + ", what can be undone", Views.history(x), Views.history(forScripts()));
        TailorWorkshop y = forScripts();
        Workshops.thrownByRun(y, script);
        BOOK.due(script + ", the next suit", y.orderSuit(0, 0), 3);
    }

    private static void errorPosition() {
        BOOK.promise(50);
        BOOK.test("Returns the error position of the latest script that did not have the required form.", () -> {
            TailorWorkshop x = new TailorWorkshop();
            Workshops.thrownByRun(x, "buy 0 1;but");
            BOOK.due(x.errorPosition(), 10);
            Workshops.thrownByRun(x, "bx");
            BOOK.due("a later one", x.errorPosition(), 1);
            Workshops.run(x, "buy 0 1");
            BOOK.due("after one that ran", x.errorPosition(), 1);
            Workshops.thrownByRun(x, "buy 0 1;buy 9 1");
            BOOK.due("after one with a failed command", x.errorPosition(), 1);
            x.type('b');
            BOOK.due("while another one is typed", x.errorPosition(), 1);
        });
        BOOK.test("Returns the error position.", () -> {
            TailorWorkshop x = new TailorWorkshop();
            Workshops.thrownByRun(x, "");
            BOOK.due("the least", x.errorPosition(), 0);
            Workshops.thrownByRun(x, "buy 0 1;".repeat(7) + "buy ");
            BOOK.due("the greatest", x.errorPosition(), 60);
        });
        BOOK.test("Throws `NoSuchElementException` if there was no such script", () -> {
            BOOK.refusedAsMade("no script at all", MISSING, TailorWorkshop::new, x -> x.errorPosition());
            BOOK.refusedAsMade("not yet run", MISSING, () -> {
                TailorWorkshop x = new TailorWorkshop();
                x.type('?');
                return x;
            }, x -> x.errorPosition());
            BOOK.refusedAsMade("one that ran, one with a failed command", MISSING, () -> {
                TailorWorkshop x = Workshops.withSuit();
                Workshops.run(x, "buy 0 1");
                Workshops.thrownByRun(x, "buy 0 1;buy 9 1");
                return Workshops.withAnotherSnapshot(Workshops.withTexts(x));
            }, x -> x.errorPosition());
        });
    }

    private static void failedCommand() {
        BOOK.promise(51);
        BOOK.test("Returns the index of the command that failed in the latest script with a failed command.", () -> {
            TailorWorkshop x = new TailorWorkshop();
            Workshops.thrownByRun(x, "buy 0 1;buy 0 1;buy 9 1;buy 0 0");
            BOOK.due("the first that failed", x.failedCommand(), 2);
            Workshops.thrownByRun(x, "buy 0 1;buy 9 1");
            BOOK.due("a later one", x.failedCommand(), 1);
            Workshops.run(x, "buy 0 1");
            BOOK.due("after one that ran", x.failedCommand(), 1);
            Workshops.thrownByRun(x, "buy 0 1;buy 0 1;but");
            BOOK.due("after one of a wrong form", x.failedCommand(), 1);
        });
        BOOK.test("Returns the index of the command, counted from 0.", () -> {
            TailorWorkshop x = new TailorWorkshop();
            Workshops.thrownByRun(x, "buy 9 1");
            BOOK.due("the first", x.failedCommand(), 0);
            Workshops.thrownByRun(x, "buy 0 1;".repeat(6) + "buy 9 1");
            BOOK.due("the last of the most", x.failedCommand(), 6);
            Workshops.thrownByRun(x, "buy 9 1;".repeat(6) + "buy 9 1");
            BOOK.due("the first of the most", x.failedCommand(), 0);
        });
        BOOK.test("Throws `NoSuchElementException` if there was no such script", () -> {
            BOOK.refusedAsMade("no script at all", MISSING, TailorWorkshop::new, x -> x.failedCommand());
            BOOK.refusedAsMade("not yet run", MISSING, () -> {
                TailorWorkshop x = new TailorWorkshop();
                Workshops.type(x, "buy 9 1");
                return x;
            }, x -> x.failedCommand());
            BOOK.refusedAsMade("one that ran, one of a wrong form, a call that was refused", MISSING, () -> {
                TailorWorkshop x = Workshops.withSuit();
                Workshops.run(x, "buy 0 1");
                Workshops.thrownByRun(x, "buy 9 1;");
                Checks.thrownBy(() -> x.buyCloth(9, 1));
                return Workshops.withAnotherSnapshot(Workshops.withTexts(x));
            }, x -> x.failedCommand());
        });
    }
}

import java.util.ArrayList;
import java.util.LinkedHashSet;
import java.util.List;
import java.util.Objects;
import java.util.Set;

/**
 * The tests of the document's sentences. Each sentence under a heading that is opened here has to have a test of its
 * own, or a reason why nothing in it can be tested; a test without a check, or of a sentence that the document does
 * not have, counts as wrong.
 */
final class Book {
    interface Body {
        void run();
    }

    interface Maker {
        TailorWorkshop make();
    }

    interface Call {
        Object on(TailorWorkshop x);
    }

    private final Document document = new Document();
    private final Set<String> untold = new LinkedHashSet<>();
    private final List<String> faults = new ArrayList<>();
    private String heading = "";
    private String sentence = "";
    private int checks = 0;
    private int sentences = 0;

    void open(String name) {
        heading = name;
        if (document.under(name).isEmpty()) {
            faults.add(name + " is not in the document");
        }
        for (String each : document.under(name)) {
            untold.add(name + ": " + each);
        }
    }

    void promise(int number) {
        open("Promise " + number);
    }

    void test(String told, Body body) {
        sentence = told;
        tell(told);
        int before = checks;
        try {
            body.run();
        } catch (RuntimeException e) {
            fault("ended with " + e, e.getStackTrace());
        }
        if (checks == before) {
            fault("has no check", new StackTraceElement[0]);
        }
    }

    /** Two sentences that say the same thing, the first one of a promise and what the call returns. */
    void test(String first, String second, Body body) {
        tell(first);
        test(second, body);
    }

    void nothingToTest(String told, String why) {
        tell(told);
        if (why.isEmpty()) {
            faults.add(told + " has no reason");
        }
    }

    private void tell(String told) {
        sentences++;
        if (!untold.remove(heading + ": " + told)) {
            faults.add(heading + ": the document does not say, or a test has said before: " + told);
        }
    }

    void due(Object got, Object want) {
        due("", got, want);
    }

    void due(String what, Object got, Object want) {
        checks++;
        if (!Objects.equals(got, want)) {
            fault(what + ": " + got + ", due is " + want, new Throwable().getStackTrace());
        }
    }

    /** The call has to throw just this exception on a workshop that is made so, dressed too, and to change nothing. */
    void refused(Class<? extends RuntimeException> want, Maker maker, Call call) {
        refused("", want, maker, call);
    }

    void refused(String what, Class<? extends RuntimeException> want, Maker maker, Call call) {
        refusedAsMade(what, want, maker, call);
        refusedAsMade(what + ", dressed", want, () -> Workshops.dressed(maker.make()), call);
    }

    /** The same where a workshop cannot be dressed with a snapshot, texts and faults without becoming another case. */
    void refusedAsMade(String what, Class<? extends RuntimeException> want, Maker maker, Call call) {
        TailorWorkshop x = maker.make();
        due(what, Checks.thrownBy(() -> call.on(x)), want.getSimpleName());
        due(what + " and what stands", Views.all(() -> {
            TailorWorkshop y = maker.make();
            Checks.thrownBy(() -> call.on(y));
            return y;
        }), Views.all(maker));
    }

    private void fault(String what, StackTraceElement[] trace) {
        faults.add(heading + ": " + sentence + "\n    " + place(trace) + " " + what.replace("\n", "\n        "));
    }

    private static String place(StackTraceElement[] trace) {
        for (StackTraceElement element : trace) {
            String name = element.getClassName();
            if (name.endsWith("Test") || name.endsWith("Terms")) {
                return element.getFileName() + ":" + element.getLineNumber();
            }
        }
        return "";
    }

    void end() {
        untold.forEach(each -> faults.add(each + "\n    has no test"));
        faults.forEach(System.out::println);
        System.out.println(sentences + " sentences, " + checks + " checks, " + faults.size() + " wrong");
        if (!faults.isEmpty()) {
            System.exit(1);
        }
    }
}

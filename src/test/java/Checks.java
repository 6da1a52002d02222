import java.util.Objects;

/** Compares answers with those that are due, and ends the test with exit code 1 if one was wrong. */
final class Checks {
    interface Call {
        Object answer();
    }

    private int wrong = 0;
    private int counted = 0;

    void due(int promise, Object got, Object want) {
        due(promise, "", got, want);
    }

    /** The promise 0 stands for what is not of one promise. */
    void due(int promise, String what, Object got, Object want) {
        counted++;
        if (!Objects.equals(got, want)) {
            wrong++;
            String of = promise == 0 ? "" : "promise " + promise + " ";
            System.out.println(of + what + " at " + place() + ": " + got + ", due is " + want);
        }
    }

    static String thrownBy(Call call) {
        try {
            return "answer " + call.answer();
        } catch (RuntimeException e) {
            return e.getClass().getSimpleName();
        }
    }

    void end() {
        System.out.println(counted + " checks, " + wrong + " wrong");
        if (wrong != 0) {
            System.exit(1);
        }
    }

    private static String place() {
        for (StackTraceElement element : new Throwable().getStackTrace()) {
            if (!element.getClassName().equals("Checks")) {
                return element.getFileName() + ":" + element.getLineNumber();
            }
        }
        return "?";
    }
}

import java.util.ArrayList;
import java.util.List;

/** Long runs of mixed calls, each answered by the program and by the plain model; the same runs every time. */
public final class ModelTest {
    private static final int RUNS = 2000;
    // A mixed call may stand for up to sixty-three, so that no object is used for more than 512.
    private static final int CALLS = 449;
    private static final Checks CHECKS = new Checks();
    private static final String[] CHANGES = {"buyCloth", "fit", "cut", "cut", "cut", "sew", "sew", "sew", "unpick",
        "demand", "demand", "deliver", "scrap", "orderSuit", "addCustomer"};
    private static final String[] QUESTIONS = {"stock", "customerCount", "pairs", "legLength", "mirrorLeg",
        "isMirrored", "customerByLegs", "suitCount", "suitAt", "customerOf", "clothOf", "sleeveState", "sleeveLength",
        "doesFit", "sewnSleeves", "demandCount", "isBefore", "canDeliver", "price", "sleevesLeft", "sewingOrder",
        "sewingOrderByQueue", "rounds", "clothNeeded", "clothNeededByDifference", "boughtTotal", "wasteTotal",
        "deliveredTotal", "income", "deliveredSuits", "meanLeg", "wasteShare", "isConsistent", "renderSuit",
        "renderOrder", "outputAt", "errorPosition", "failedCommand"};
    private static final int[] ODD = {-1, -2, 4, 5, 16, 100, Integer.MIN_VALUE, Integer.MAX_VALUE};

    private long seed;
    private final int legs;
    private final TailorWorkshop program = new TailorWorkshop();
    private final PlainModel model = new PlainModel();
    private final List<String> told = new ArrayList<>();

    private ModelTest(int run) {
        seed = 1000003L * run + 7;
        legs = 2 * (1 + run % 8);
    }

    public static void main(String[] arguments) {
        for (int run = 0; run < RUNS; run++) {
            if (!new ModelTest(run).isRight()) {
                break;
            }
        }
        CHECKS.end();
    }

    private int below(int bound) {
        seed = seed * 6364136223846793005L + 1442695040888963407L;
        return (int) ((seed >>> 33) % bound);
    }

    private boolean isRight() {
        boolean right = both("buyCloth", 0, 900, 0) && both("buyCloth", 1, 900, 0)
                && both("addCustomer", legs / 2, 20, 0) && both("orderSuit", 0, 0, 0) && both("orderSuit", 0, 1, 0);
        while (right && told.size() < CALLS) {
            right = mixedCall();
        }
        if (!right) {
            System.out.println(String.join("\n", told));
        }
        return right;
    }

    private boolean mixedCall() {
        int kind = below(100);
        if (kind < 45) {
            return change(CHANGES[below(CHANGES.length)]);
        }
        if (kind < 85) {
            return question(QUESTIONS[below(QUESTIONS.length)]);
        }
        if (kind < 93) {
            return history();
        }
        return kind < 97 ? script() : finished(suit());
    }

    /** Cuts and sews all that is left of a suit, so that some suits are delivered. */
    private boolean finished(int suit) {
        boolean right = true;
        for (int i = 0; right && i < legs; i++) {
            right = both("sewingOrder", suit, 0, 0);
            String next = Checks.thrownBy(() -> model.call("sewingOrder", suit, 0, 0));
            if (right && next.startsWith("answer ")) {
                int sleeve = Integer.parseInt(next.substring("answer ".length()));
                right = both("cut", suit, sleeve, 0) && both("sew", suit, sleeve, 0);
            }
        }
        return right && both("canDeliver", suit, 0, 0) && both("price", suit, 0, 0) && both("deliver", suit, 0, 0);
    }

    private boolean history() {
        int kind = below(10);
        return both(kind < 7 ? "undo" : kind < 9 ? "save" : "restore", 0, 0, 0);
    }

    private boolean change(String name) {
        switch (name) {
            case "buyCloth":
                return both(name, odd(below(4)), odd(below(6) == 0 ? 800 + below(202) : below(60)), 0);
            case "addCustomer":
                return both(name, odd(1 + below(8)), odd(9 + below(53)), 0);
            case "fit":
                return both(name, odd(below(2)), sleeve(), odd(below(9) == 0 ? 9 + below(53) : 18 + below(4)));
            case "orderSuit":
                return both(name, odd(below(2)), odd(below(4)), 0);
            case "demand":
                return both(name, suit(), sleeve(), sleeve());
            case "deliver":
            case "scrap":
                return below(3) > 0 || both(name, suit(), 0, 0);
            default:
                return both(name, suit(), sleeve(), 0);
        }
    }

    private boolean question(String name) {
        boolean ofSuit = !name.equals("isMirrored") && !name.equals("suitAt") && below(2) == 0;
        return both(name, ofSuit ? suit() : odd(below(4)), sleeve(), sleeve());
    }

    /** Mostly a suit that exists, and the earlier ones more often, so that some are finished. */
    private int suit() {
        int count = (int) model.call("suitCount", 0, 0, 0);
        return odd(count == 0 ? 0 : suitAt(Math.min(below(count), below(count))));
    }

    private int suitAt(int position) {
        return (int) model.call("suitAt", position, 0, 0);
    }

    private int sleeve() {
        return odd(below(legs));
    }

    private int odd(int usual) {
        return below(25) == 0 ? ODD[below(ODD.length)] : usual;
    }

    private boolean script() {
        StringBuilder text = new StringBuilder();
        int commands = 1 + below(4);
        for (int i = 0; i < commands; i++) {
            text.append(i == 0 ? "" : ";").append(command());
        }
        if (below(3) == 0) {
            spoil(text);
        }
        boolean right = true;
        for (int i = 0; right && i < text.length(); i++) {
            right = both("type", text.charAt(i), 0, 0);
        }
        return right && both("runScript", 0, 0, 0) && both("errorPosition", 0, 0, 0) && both("failedCommand", 0, 0, 0);
    }

    private String command() {
        int count = (int) model.call("suitCount", 0, 0, 0);
        int suit = count == 0 ? 0 : suitAt(below(count));
        int sleeve = below(legs);
        switch (below(10)) {
            case 0:
                return "buy " + below(5) + " " + below(99);
            case 1:
                return "customer " + below(4) + " " + (9 + below(30));
            case 2:
                return "fit 0 " + sleeve + " " + (18 + below(4));
            case 3:
                return "suit 0 " + below(5);
            case 4:
                return "order " + suit + " " + sleeve + "<" + below(legs);
            case 5:
                return below(2) == 0 ? "deliver " + suit : "scrap 00" + suit % 10;
            case 6:
                return "unpick " + suit + " " + sleeve;
            case 7:
                return "sew " + suit + " " + sleeve;
            default:
                return "cut " + suit + " " + sleeve;
        }
    }

    private void spoil(StringBuilder text) {
        int at = below(text.length());
        switch (below(4)) {
            case 0:
                text.setLength(at);
                break;
            case 1:
                text.deleteCharAt(at);
                break;
            case 2:
                text.insert(at, "0;< cusbdof".charAt(below(11)));
                break;
            default:
                text.setCharAt(at, (char) (31 + below(97)));
                break;
        }
    }

    private boolean both(String name, int a, int b, int c) {
        String got = Checks.thrownBy(() -> ask(name, a, b, c));
        String due = Checks.thrownBy(() -> model.call(name, a, b, c));
        told.add(name + " " + a + " " + b + " " + c + ": " + got + ", due is " + due);
        CHECKS.due(0, name, got, due);
        return got.equals(due);
    }

    private Object ask(String name, int a, int b, int c) {
        switch (name) {
            case "buyCloth": return program.buyCloth(a, b);
            case "addCustomer": return program.addCustomer(a, b);
            case "fit": return program.fit(a, b, c);
            case "orderSuit": return program.orderSuit(a, b);
            case "cut": return program.cut(a, b);
            case "sew": return program.sew(a, b);
            case "unpick": return program.unpick(a, b);
            case "demand": return program.demand(a, b, c);
            case "deliver": return program.deliver(a);
            case "scrap": return program.scrap(a);
            case "stock": return program.stock(a);
            case "customerCount": return program.customerCount();
            case "pairs": return program.pairs(a);
            case "legLength": return program.legLength(a, b);
            case "mirrorLeg": return program.mirrorLeg(a, b);
            case "isMirrored": return program.isMirrored(a);
            case "customerByLegs": return program.customerByLegs(a);
            case "suitCount": return program.suitCount();
            case "suitAt": return program.suitAt(a);
            case "customerOf": return program.customerOf(a);
            case "clothOf": return program.clothOf(a);
            case "sleeveState": return program.sleeveState(a, b);
            case "sleeveLength": return program.sleeveLength(a, b);
            case "doesFit": return program.doesFit(a, b);
            case "sewnSleeves": return program.sewnSleeves(a);
            case "demandCount": return program.demandCount(a);
            default: return askFurther(name, a, b, c);
        }
    }

    private Object askFurther(String name, int a, int b, int c) {
        switch (name) {
            case "isBefore": return program.isBefore(a, b, c);
            case "canDeliver": return program.canDeliver(a);
            case "price": return program.price(a);
            case "sleevesLeft": return program.sleevesLeft(a);
            case "sewingOrder": return program.sewingOrder(a, b);
            case "sewingOrderByQueue": return program.sewingOrderByQueue(a, b);
            case "rounds": return program.rounds(a);
            case "clothNeeded": return program.clothNeeded(a);
            case "clothNeededByDifference": return program.clothNeededByDifference(a);
            case "boughtTotal": return program.boughtTotal();
            case "wasteTotal": return program.wasteTotal();
            case "deliveredTotal": return program.deliveredTotal();
            case "income": return program.income();
            case "deliveredSuits": return program.deliveredSuits();
            case "meanLeg": return program.meanLeg(a);
            case "wasteShare": return program.wasteShare();
            case "isConsistent": return program.isConsistent();
            case "renderSuit": return program.renderSuit(a);
            case "renderOrder": return program.renderOrder(a);
            case "outputAt": return program.outputAt(a);
            case "type": return program.type((char) a);
            case "runScript": return program.runScript();
            case "errorPosition": return program.errorPosition();
            case "failedCommand": return program.failedCommand();
            case "undo": return program.undo();
            case "save": return program.save();
            case "restore": return program.restore();
            default: throw new AssertionError(name);
        }
    }
}

import java.util.ArrayList;
import java.util.Collections;
import java.util.Comparator;
import java.util.LinkedHashSet;
import java.util.List;
import java.util.NoSuchElementException;
import java.util.Set;
import java.util.TreeMap;
import java.util.TreeSet;
import java.util.regex.Matcher;
import java.util.regex.Pattern;
import java.util.stream.Collectors;

/** The document told a second time, with the collections and patterns of the Java library, as slow as it likes. */
final class PlainModel {
    private static final String NUMBER = "\\d{1,3}";
    private static final String COMMAND = "(?:buy \\d N|customer \\d N|fit \\d N N|suit \\d \\d"
            + "|(?:cut |sew |unpick )N N|order N N<N|deliver N|scrap N)";
    private static final Pattern SCRIPT =
            Pattern.compile("C(?:;C)*".replace("C", COMMAND).replace("N", NUMBER));

    /** A demand that the first sleeve is sewn before the second one. */
    record Seam(int first, int second) {
    }

    static final class Piece {
        char state = 'p';
        int length = 0;

        Piece copy() {
            Piece piece = new Piece();
            piece.state = state;
            piece.length = length;
            return piece;
        }
    }

    static final class Suit {
        int customer;
        int cloth;
        List<Piece> pieces = new ArrayList<>();
        Set<Seam> seams = new LinkedHashSet<>();

        Suit copy() {
            Suit suit = new Suit();
            suit.customer = customer;
            suit.cloth = cloth;
            pieces.forEach(piece -> suit.pieces.add(piece.copy()));
            suit.seams.addAll(seams);
            return suit;
        }
    }

    static final class Room {
        List<Integer> stocks = new ArrayList<>(List.of(0, 0, 0, 0));
        List<List<Integer>> customers = new ArrayList<>();
        TreeMap<Integer, Suit> suits = new TreeMap<>();
        int nextId = 0;
        int bought = 0;
        int waste = 0;
        int delivered = 0;
        int income = 0;
        int deliveredSuits = 0;

        Room copy() {
            Room room = new Room();
            room.stocks = new ArrayList<>(stocks);
            customers.forEach(legs -> room.customers.add(new ArrayList<>(legs)));
            suits.forEach((id, suit) -> room.suits.put(id, suit.copy()));
            room.nextId = nextId;
            room.bought = bought;
            room.waste = waste;
            room.delivered = delivered;
            room.income = income;
            room.deliveredSuits = deliveredSuits;
            return room;
        }
    }

    private Room room = new Room();
    private final List<Room> past = new ArrayList<>();
    private Room saved = null;
    private String buffer = "";
    private Integer errorPosition = null;
    private Integer failedCommand = null;
    private String output = "";

    Object call(String name, int a, int b, int c) {
        switch (name) {
            case "type":
                return type((char) a);
            case "runScript":
                return runScript();
            case "undo":
                return undo();
            case "save":
                saved = room.copy();
                return room.suits.size();
            case "restore":
                return restore();
            case "errorPosition":
                missing(errorPosition == null);
                return errorPosition;
            case "failedCommand":
                missing(failedCommand == null);
                return failedCommand;
            case "outputAt":
                outside(a < 0 || a >= output.length());
                return output.charAt(a);
            default:
                return changeOrQuestion(name, a, b, c);
        }
    }

    private Object changeOrQuestion(String name, int a, int b, int c) {
        if (!Set.of("buyCloth", "addCustomer", "fit", "orderSuit", "cut", "sew", "unpick", "demand", "deliver", "scrap")
                .contains(name)) {
            return question(name, a, b, c);
        }
        Room before = room.copy();
        try {
            int answer = change(name, a, b, c);
            remember(before);
            return answer;
        } catch (RuntimeException e) {
            room = before;
            throw e;
        }
    }

    private void remember(Room before) {
        past.add(before);
        if (past.size() > 8) {
            past.remove(0);
        }
    }

    private int change(String name, int a, int b, int c) {
        switch (name) {
            case "buyCloth":
                return buyCloth(a, b);
            case "addCustomer":
                argument(a < 1 || a > 8 || b < 10 || b > 60);
                state(room.customers.size() >= 5);
                room.customers.add(new ArrayList<>(Collections.nCopies(2 * a, b)));
                return room.customers.size() - 1;
            case "fit":
                outside(a < 0 || a >= room.customers.size());
                outside(b < 0 || b >= room.customers.get(a).size());
                argument(c < 10 || c > 60);
                return room.customers.get(a).set(b, c);
            case "orderSuit":
                return orderSuit(a, b);
            case "cut":
                return cut(a, b);
            case "sew":
                return sew(a, b);
            case "unpick":
                return unpick(a, b);
            case "demand":
                return demand(a, b, c);
            case "deliver":
                return deliver(a);
            default:
                int lost = inside(suit(a));
                room.waste += lost;
                room.suits.remove(a);
                return lost;
        }
    }

    private int buyCloth(int cloth, int centimetres) {
        outside(cloth < 0 || cloth > 3);
        argument(centimetres < 1 || centimetres > 999);
        unsupported(room.stocks.get(cloth) + centimetres > 2000);
        room.stocks.set(cloth, room.stocks.get(cloth) + centimetres);
        room.bought += centimetres;
        return room.stocks.get(cloth);
    }

    private int orderSuit(int customer, int cloth) {
        outside(customer < 0 || customer >= room.customers.size() || cloth < 0 || cloth > 3);
        state(room.suits.size() >= 6);
        Suit suit = new Suit();
        suit.customer = customer;
        suit.cloth = cloth;
        room.customers.get(customer).forEach(leg -> suit.pieces.add(new Piece()));
        room.suits.put(room.nextId, suit);
        return room.nextId++;
    }

    private int cut(int id, int sleeve) {
        Suit suit = suit(id);
        Piece piece = piece(suit, sleeve);
        state(piece.state != 'p');
        int left = room.stocks.get(suit.cloth) - leg(suit, sleeve) - 2;
        unsupported(left < 0);
        piece.state = 'c';
        piece.length = leg(suit, sleeve);
        room.stocks.set(suit.cloth, left);
        return left;
    }

    private int sew(int id, int sleeve) {
        Suit suit = suit(id);
        Piece piece = piece(suit, sleeve);
        state(piece.state != 'c');
        for (int other = 0; other < suit.pieces.size(); other++) {
            unsupported(isBefore(suit, other, sleeve) && suit.pieces.get(other).state != 's');
        }
        piece.state = 's';
        return suit.pieces.size() - left(suit).size();
    }

    private int unpick(int id, int sleeve) {
        Suit suit = suit(id);
        Piece piece = piece(suit, sleeve);
        state(piece.state == 'p');
        for (int other = 0; other < suit.pieces.size(); other++) {
            unsupported(isBefore(suit, sleeve, other) && suit.pieces.get(other).state == 's');
        }
        piece.state = 'p';
        room.waste += piece.length + 2;
        return piece.length + 2;
    }

    private int demand(int id, int first, int second) {
        Suit suit = suit(id);
        piece(suit, first);
        piece(suit, second);
        argument(first == second);
        state(suit.seams.contains(new Seam(first, second)) || suit.seams.size() >= 12);
        state(suit.pieces.get(second).state == 's' && suit.pieces.get(first).state != 's');
        unsupported(isBefore(suit, second, first));
        suit.seams.add(new Seam(first, second));
        return suit.seams.size();
    }

    private int deliver(int id) {
        Suit suit = suit(id);
        state(!canDeliver(suit));
        int price = price(suit);
        room.delivered += inside(suit);
        room.income += price;
        room.deliveredSuits++;
        room.suits.remove(id);
        return price;
    }

    private Object question(String name, int a, int b, int c) {
        switch (name) {
            case "stock":
                outside(a < 0 || a > 3);
                return room.stocks.get(a);
            case "customerCount":
                return room.customers.size();
            case "pairs":
                return customer(a).size() / 2;
            case "legLength":
                outside(b < 0 || b >= customer(a).size());
                return customer(a).get(b);
            case "mirrorLeg":
                outside(b < 0 || b >= customer(a).size());
                return b ^ 1;
            case "isMirrored":
                return even(customer(a));
            case "customerByLegs":
                return customerByLegs(a);
            case "suitCount":
                return room.suits.size();
            case "suitAt":
                missing(a < 0 || a >= room.suits.size());
                return new ArrayList<>(room.suits.keySet()).get(a);
            case "boughtTotal":
                return room.bought;
            case "wasteTotal":
                return room.waste;
            case "deliveredTotal":
                return room.delivered;
            case "income":
                return room.income;
            case "deliveredSuits":
                return room.deliveredSuits;
            case "meanLeg":
                return (double) sum(customer(a)) / (double) customer(a).size();
            case "wasteShare":
                if (room.bought == 0) {
                    throw new ArithmeticException();
                }
                return (float) room.waste / (float) room.bought;
            case "isConsistent":
                return true;
            default:
                return questionOfSuit(name, suit(a), b, c);
        }
    }

    private Object questionOfSuit(String name, Suit suit, int b, int c) {
        switch (name) {
            case "customerOf":
                return suit.customer;
            case "clothOf":
                return suit.cloth;
            case "sleeveState":
                return piece(suit, b).state;
            case "sleeveLength":
                state(piece(suit, b).state == 'p');
                return piece(suit, b).length;
            case "doesFit":
                state(piece(suit, b).state == 'p');
                return piece(suit, b).length == leg(suit, b);
            case "sewnSleeves":
                return suit.pieces.size() - left(suit).size();
            case "demandCount":
                return suit.seams.size();
            case "isBefore":
                piece(suit, b);
                piece(suit, c);
                return isBefore(suit, b, c);
            case "canDeliver":
                return canDeliver(suit);
            case "price":
                return price(suit);
            case "sleevesLeft":
                return left(suit).size();
            case "sewingOrder":
            case "sewingOrderByQueue":
                outside(b < 0 || b >= left(suit).size());
                return order(suit).get(b);
            case "rounds":
                return left(suit).stream().mapToInt(sleeve -> chain(suit, sleeve)).max().orElse(0);
            case "clothNeeded":
            case "clothNeededByDifference":
                return needed(suit);
            case "renderSuit":
                output = rendered(suit);
                return output.length();
            case "renderOrder":
                output = order(suit).stream().map(String::valueOf).collect(Collectors.joining(","));
                return output.length();
            default:
                throw new AssertionError(name);
        }
    }

    private List<Integer> customer(int index) {
        outside(index < 0 || index >= room.customers.size());
        return room.customers.get(index);
    }

    private Suit suit(int id) {
        missing(!room.suits.containsKey(id));
        return room.suits.get(id);
    }

    private static Piece piece(Suit suit, int sleeve) {
        outside(sleeve < 0 || sleeve >= suit.pieces.size());
        return suit.pieces.get(sleeve);
    }

    private int leg(Suit suit, int sleeve) {
        return room.customers.get(suit.customer).get(sleeve);
    }

    private static int sum(List<Integer> legs) {
        return legs.stream().mapToInt(Integer::intValue).sum();
    }

    private static boolean even(List<Integer> lengths) {
        for (int i = 0; i < lengths.size(); i += 2) {
            if (Math.abs(lengths.get(i) - lengths.get(i + 1)) > 1) {
                return false;
            }
        }
        return true;
    }

    private int customerByLegs(int rank) {
        missing(rank < 0 || rank >= room.customers.size());
        List<Integer> ranked = new ArrayList<>();
        for (int i = 0; i < room.customers.size(); i++) {
            ranked.add(i);
        }
        ranked.sort(Comparator.comparing(i -> -sum(room.customers.get(i))));
        return ranked.get(rank);
    }

    private static Set<Integer> left(Suit suit) {
        Set<Integer> left = new TreeSet<>();
        for (int i = 0; i < suit.pieces.size(); i++) {
            if (suit.pieces.get(i).state != 's') {
                left.add(i);
            }
        }
        return left;
    }

    private static boolean isBefore(Suit suit, int first, int second) {
        for (Seam seam : suit.seams) {
            if (seam.first() == first && (seam.second() == second || isBefore(suit, seam.second(), second))) {
                return true;
            }
        }
        return false;
    }

    private static List<Integer> order(Suit suit) {
        List<Integer> order = new ArrayList<>();
        Set<Integer> left = left(suit);
        while (!left.isEmpty()) {
            int next = left.stream().filter(s -> left.stream().noneMatch(o -> isBefore(suit, o, s))).findFirst()
                    .orElseThrow();
            order.add(next);
            left.remove(next);
        }
        return order;
    }

    private static int chain(Suit suit, int sleeve) {
        return 1 + suit.seams.stream()
                .filter(seam -> seam.second() == sleeve && suit.pieces.get(seam.first()).state != 's')
                .mapToInt(seam -> chain(suit, seam.first())).max().orElse(0);
    }

    private boolean canDeliver(Suit suit) {
        List<Integer> lengths = suit.pieces.stream().map(piece -> piece.length).collect(Collectors.toList());
        return left(suit).isEmpty() && even(lengths) && lengths.equals(room.customers.get(suit.customer));
    }

    private int price(Suit suit) {
        int price = 3 * suit.seams.size();
        for (int i = 0; i < suit.pieces.size(); i++) {
            price += suit.pieces.get(i).state == 'p' ? leg(suit, i) : suit.pieces.get(i).length;
        }
        return price;
    }

    private static int inside(Suit suit) {
        return suit.pieces.stream().filter(piece -> piece.state != 'p').mapToInt(piece -> piece.length + 2).sum();
    }

    private int needed(Suit suit) {
        int needed = 0;
        for (int i = 0; i < suit.pieces.size(); i++) {
            needed += suit.pieces.get(i).state == 'p' ? leg(suit, i) + 2 : 0;
        }
        return needed;
    }

    private static String rendered(Suit suit) {
        List<String> pairs = new ArrayList<>();
        for (int i = 0; i < suit.pieces.size(); i += 2) {
            pairs.add(rendered(suit.pieces.get(i)) + " " + rendered(suit.pieces.get(i + 1)));
        }
        return String.join("|", pairs);
    }

    private static String rendered(Piece piece) {
        return piece.state == 'p' ? "." : piece.length + "" + piece.state;
    }

    private int type(char character) {
        argument(character < 32 || character > 126);
        state(buffer.length() >= 60);
        buffer += character;
        return buffer.length();
    }

    private int runScript() {
        String script = buffer;
        buffer = "";
        if (!isScript(script)) {
            errorPosition = errorIn(script);
            throw new IllegalArgumentException();
        }
        Room before = room.copy();
        String[] commands = script.split(";");
        for (int i = 0; i < commands.length; i++) {
            try {
                perform(commands[i]);
            } catch (RuntimeException e) {
                room = before;
                failedCommand = i;
                throw new IllegalStateException();
            }
        }
        remember(before);
        return commands.length;
    }

    private void perform(String command) {
        String[] words = command.split("[ <]");
        int[] numbers = new int[3];
        for (int i = 1; i < words.length; i++) {
            numbers[i - 1] = Integer.parseInt(words[i]);
        }
        String[] names = {"buy", "buyCloth", "customer", "addCustomer", "suit", "orderSuit", "order", "demand"};
        String name = words[0];
        for (int i = 0; i < names.length; i += 2) {
            name = names[i].equals(words[0]) ? names[i + 1] : name;
        }
        change(name, numbers[0], numbers[1], numbers[2]);
    }

    static boolean isScript(String script) {
        return SCRIPT.matcher(script).matches();
    }

    /** The first character with which no script begins, found by asking for each beginning whether it can go on. */
    static int errorIn(String script) {
        for (int i = 0; i < script.length(); i++) {
            Matcher matcher = SCRIPT.matcher(script.substring(0, i + 1));
            if (!matcher.matches() && !matcher.hitEnd()) {
                return i;
            }
        }
        return script.length();
    }

    private int undo() {
        missing(past.isEmpty());
        room = past.remove(past.size() - 1);
        return past.size();
    }

    private int restore() {
        state(saved == null);
        room = saved.copy();
        past.clear();
        return room.suits.size();
    }

    private static void missing(boolean wrong) {
        if (wrong) {
            throw new NoSuchElementException();
        }
    }

    private static void outside(boolean wrong) {
        if (wrong) {
            throw new IndexOutOfBoundsException();
        }
    }

    private static void argument(boolean wrong) {
        if (wrong) {
            throw new IllegalArgumentException();
        }
    }

    private static void state(boolean wrong) {
        if (wrong) {
            throw new IllegalStateException();
        }
    }

    private static void unsupported(boolean wrong) {
        if (wrong) {
            throw new UnsupportedOperationException();
        }
    }
}

import java.util.NoSuchElementException;

/** A workshop that tailors suits for customers with many legs. The document's promises say what each call answers. */
public final class TailorWorkshop {
    private static final int CLOTHS = 4;
    private static final int STOCK_LIMIT = 2000;
    private static final int PURCHASE_LIMIT = 999;
    private static final int CUSTOMER_LIMIT = 5;
    private static final int PAIR_LIMIT = 8;
    private static final int LEG_LIMIT = 2 * PAIR_LIMIT;
    private static final int SHORTEST_LEG = 10;
    private static final int LONGEST_LEG = 60;
    private static final int MIRROR_TOLERANCE = 1;
    private static final int SUIT_LIMIT = 6;
    private static final int DEMAND_LIMIT = 12;
    private static final int DEMAND_PRICE = 3;
    private static final int SEAM_ALLOWANCE = 2;
    private static final int UNDO_LIMIT = 8;
    private static final int SCRIPT_LIMIT = 60;
    private static final int NUMBER_DIGITS = 3;

    private static final char PLANNED = 'p';
    private static final char CUT = 'c';
    private static final char SEWN = 's';

    // The kinds of change, in the order in which a script's text is compared with their forms.
    private static final int BUY_CLOTH = 0;
    private static final int ADD_CUSTOMER = 1;
    private static final int FIT_LEG = 2;
    private static final int ORDER_SUIT = 3;
    private static final int CUT_SLEEVE = 4;
    private static final int SEW_SLEEVE = 5;
    private static final int UNPICK_SLEEVE = 6;
    private static final int ADD_DEMAND = 7;
    private static final int DELIVER_SUIT = 8;
    private static final int SCRAP_SUIT = 9;
    private static final int CHANGE_KINDS = 10;
    private static final int CHANGE_ARGUMENTS = 3;

    // In a form these two signs stand for a digit and a number; every other sign stands for itself.
    private static final char DIGIT_PLACE = '#';
    private static final char NUMBER_PLACE = '@';

    // No change answers a negative number, so a refused one answers one of these. A script needs
    // that: it goes through the same changes without an exception to catch.
    private static final int NO_SUCH_SUIT = -1;
    private static final int OUT_OF_BOUNDS = -2;
    private static final int WRONG_ARGUMENT = -3;
    private static final int WRONG_STATE = -4;
    private static final int UNSUPPORTED = -5;

    private static final int NONE = -1;

    private Workroom present = new Workroom();
    // A change is tried out here first, so that a refused change or script leaves the present as it was.
    private Workroom trial = new Workroom();
    private final Workroom saved = new Workroom();
    private boolean hasSaved = false;
    // The states before the changes that can be undone, the oldest first; the places from undoable on are spare.
    private final Workroom[] past = new Workroom[UNDO_LIMIT];
    private int undoable = 0;
    private final OrderFinder finder = new OrderFinder();
    private final Script script = new Script();
    private int errorAt = NONE;
    private int failedAt = NONE;
    private final StringBuilder output = new StringBuilder();

    public TailorWorkshop() {
        for (int i = 0; i < UNDO_LIMIT; i++) {
            past[i] = new Workroom();
        }
    }

    // ---- changes

    public int buyCloth(int cloth, int centimetres)
            throws IndexOutOfBoundsException, IllegalArgumentException, UnsupportedOperationException {
        return change(BUY_CLOTH, cloth, centimetres, 0);
    }

    public int addCustomer(int pairs, int length) throws IllegalArgumentException, IllegalStateException {
        return change(ADD_CUSTOMER, pairs, length, 0);
    }

    public int fit(int customer, int leg, int length) throws IndexOutOfBoundsException, IllegalArgumentException {
        return change(FIT_LEG, customer, leg, length);
    }

    public int orderSuit(int customer, int cloth) throws IndexOutOfBoundsException, IllegalStateException {
        return change(ORDER_SUIT, customer, cloth, 0);
    }

    public int cut(int suit, int sleeve)
            throws NoSuchElementException, IndexOutOfBoundsException, IllegalStateException,
            UnsupportedOperationException {
        return change(CUT_SLEEVE, suit, sleeve, 0);
    }

    public int sew(int suit, int sleeve)
            throws NoSuchElementException, IndexOutOfBoundsException, IllegalStateException,
            UnsupportedOperationException {
        return change(SEW_SLEEVE, suit, sleeve, 0);
    }

    public int unpick(int suit, int sleeve)
            throws NoSuchElementException, IndexOutOfBoundsException, IllegalStateException,
            UnsupportedOperationException {
        return change(UNPICK_SLEEVE, suit, sleeve, 0);
    }

    public int demand(int suit, int first, int second)
            throws NoSuchElementException, IndexOutOfBoundsException, IllegalArgumentException,
            IllegalStateException, UnsupportedOperationException {
        return change(ADD_DEMAND, suit, first, second);
    }

    public int deliver(int suit) throws NoSuchElementException, IllegalStateException {
        return change(DELIVER_SUIT, suit, 0, 0);
    }

    public int scrap(int suit) throws NoSuchElementException {
        return change(SCRAP_SUIT, suit, 0, 0);
    }

    private int change(int kind, int first, int second, int third) {
        trial.takeOver(present);
        int answer = trial.perform(kind, first, second, third);
        if (answer < 0) {
            refuse(answer);
        }
        adoptTrial();
        return answer;
    }

    private static void refuse(int fault) {
        switch (fault) {
            case NO_SUCH_SUIT:
                throw new NoSuchElementException("no such suit");
            case OUT_OF_BOUNDS:
                throw new IndexOutOfBoundsException("no such cloth, customer, leg or sleeve");
            case WRONG_ARGUMENT:
                throw new IllegalArgumentException("an argument is not in its range");
            case WRONG_STATE:
                throw new IllegalStateException("the state does not allow it");
            default:
                throw new UnsupportedOperationException("the cloth or the demands do not allow it");
        }
    }

    private void adoptTrial() {
        if (undoable == UNDO_LIMIT) {
            forgetOldest();
        }
        Workroom spare = past[undoable];
        past[undoable] = present;
        undoable++;
        present = trial;
        trial = spare;
    }

    private void forgetOldest() {
        Workroom oldest = past[0];
        for (int i = 1; i < UNDO_LIMIT; i++) {
            past[i - 1] = past[i];
        }
        past[UNDO_LIMIT - 1] = oldest;
        undoable = UNDO_LIMIT - 1;
    }

    // ---- cloths and customers

    public int stock(int cloth) throws IndexOutOfBoundsException {
        if (cloth < 0 || cloth >= CLOTHS) {
            throw new IndexOutOfBoundsException("no such cloth");
        }
        return present.stocks[cloth];
    }

    public int customerCount() {
        return present.customerCount;
    }

    public int pairs(int customer) throws IndexOutOfBoundsException {
        return known(customer).legCount / 2;
    }

    public int legLength(int customer, int leg) throws IndexOutOfBoundsException {
        return knownWithLeg(customer, leg).legs[leg];
    }

    public int mirrorLeg(int customer, int leg) throws IndexOutOfBoundsException {
        knownWithLeg(customer, leg);
        return leg % 2 == 0 ? leg + 1 : leg - 1;
    }

    public boolean isMirrored(int customer) throws IndexOutOfBoundsException {
        return known(customer).hasEvenPairs();
    }

    public int customerByLegs(int rank) throws NoSuchElementException {
        int found = present.customerAtRank(rank);
        if (found < 0) {
            throw new NoSuchElementException("no such rank");
        }
        return found;
    }

    private Customer known(int customer) {
        if (!present.hasCustomer(customer)) {
            throw new IndexOutOfBoundsException("no such customer");
        }
        return present.customers[customer];
    }

    private Customer knownWithLeg(int customer, int leg) {
        Customer found = known(customer);
        if (!found.hasLeg(leg)) {
            throw new IndexOutOfBoundsException("no such leg");
        }
        return found;
    }

    // ---- suits

    public int suitCount() {
        return present.suitCount;
    }

    public int suitAt(int position) throws NoSuchElementException {
        if (position < 0 || position >= present.suitCount) {
            throw new NoSuchElementException("no such position");
        }
        return present.suits[position].id;
    }

    public int customerOf(int suit) throws NoSuchElementException {
        return existing(suit).customer;
    }

    public int clothOf(int suit) throws NoSuchElementException {
        return existing(suit).cloth;
    }

    public char sleeveState(int suit, int sleeve) throws NoSuchElementException, IndexOutOfBoundsException {
        return existingWithSleeve(suit, sleeve).states[sleeve];
    }

    public int sleeveLength(int suit, int sleeve)
            throws NoSuchElementException, IndexOutOfBoundsException, IllegalStateException {
        return existingWithPiece(suit, sleeve).lengths[sleeve];
    }

    public boolean doesFit(int suit, int sleeve)
            throws NoSuchElementException, IndexOutOfBoundsException, IllegalStateException {
        Suit found = existingWithPiece(suit, sleeve);
        return found.fitsAt(sleeve, present.wearerOf(found));
    }

    public int sewnSleeves(int suit) throws NoSuchElementException {
        return existing(suit).sewnCount();
    }

    public int demandCount(int suit) throws NoSuchElementException {
        return existing(suit).demands;
    }

    public boolean isBefore(int suit, int first, int second)
            throws NoSuchElementException, IndexOutOfBoundsException {
        existingWithSleeve(suit, first);
        return existingWithSleeve(suit, second).comesBefore(first, second);
    }

    public boolean canDeliver(int suit) throws NoSuchElementException {
        Suit found = existing(suit);
        return found.isReadyFor(present.wearerOf(found));
    }

    public int price(int suit) throws NoSuchElementException {
        Suit found = existing(suit);
        return found.priceFor(present.wearerOf(found));
    }

    public int sleevesLeft(int suit) throws NoSuchElementException {
        return existing(suit).unsewnCount();
    }

    public int sewingOrder(int suit, int position) throws NoSuchElementException, IndexOutOfBoundsException {
        int count = finder.findByScan(existing(suit));
        return placeInOrder(finder.scanned, count, position);
    }

    public int sewingOrderByQueue(int suit, int position) throws NoSuchElementException, IndexOutOfBoundsException {
        int count = finder.findByQueue(existing(suit));
        return placeInOrder(finder.queued, count, position);
    }

    public int rounds(int suit) throws NoSuchElementException {
        return existing(suit).roundsLeft();
    }

    public int clothNeeded(int suit) throws NoSuchElementException {
        Suit found = existing(suit);
        return found.neededBySleeve(present.wearerOf(found));
    }

    public int clothNeededByDifference(int suit) throws NoSuchElementException {
        Suit found = existing(suit);
        return found.neededByDifference(present.wearerOf(found));
    }

    private Suit existing(int suit) {
        Suit found = present.suitWithId(suit);
        if (found == null) {
            throw new NoSuchElementException("no such suit");
        }
        return found;
    }

    private Suit existingWithSleeve(int suit, int sleeve) {
        Suit found = existing(suit);
        if (!found.hasSleeve(sleeve)) {
            throw new IndexOutOfBoundsException("no such sleeve");
        }
        return found;
    }

    private Suit existingWithPiece(int suit, int sleeve) {
        Suit found = existingWithSleeve(suit, sleeve);
        if (found.isPlanned(sleeve)) {
            throw new IllegalStateException("the sleeve is planned");
        }
        return found;
    }

    private static int placeInOrder(int[] order, int count, int position) {
        if (position < 0 || position >= count) {
            throw new IndexOutOfBoundsException("no such position");
        }
        return order[position];
    }

    // ---- totals and checks

    public int boughtTotal() {
        return present.bought;
    }

    public int wasteTotal() {
        return present.waste;
    }

    public int deliveredTotal() {
        return present.delivered;
    }

    public int income() {
        return present.earned;
    }

    public int deliveredSuits() {
        return present.suitsDelivered;
    }

    public double meanLeg(int customer) throws IndexOutOfBoundsException {
        Customer found = known(customer);
        // A customer has at least one pair of legs, but a divisor is looked at all the same.
        return found.legCount == 0 ? 0.0 : (double) found.legSum() / (double) found.legCount;
    }

    public float wasteShare() throws ArithmeticException {
        if (present.bought == 0) {
            throw new ArithmeticException("no cloth has been bought");
        }
        return (float) present.waste / (float) present.bought;
    }

    public boolean isConsistent() {
        for (int i = 0; i < present.suitCount; i++) {
            if (!isSuitConsistent(present.suits[i])) {
                return false;
            }
        }
        return present.accountsForCloth();
    }

    private boolean isSuitConsistent(Suit suit) {
        Customer wearer = present.wearerOf(suit);
        return finder.bothWaysAgree(suit)
                && suit.neededBySleeve(wearer) == suit.neededByDifference(wearer)
                && !suit.hasCycle()
                && suit.isSewnInOrder();
    }

    // ---- output and scripts

    public int renderSuit(int suit) throws NoSuchElementException {
        Suit found = existing(suit);
        output.setLength(0);
        for (int i = 0; i < found.sleeves; i++) {
            if (i > 0) {
                output.append(i % 2 == 0 ? '|' : ' ');
            }
            renderSleeve(found, i);
        }
        return output.length();
    }

    private void renderSleeve(Suit suit, int sleeve) {
        if (suit.isPlanned(sleeve)) {
            output.append('.');
        } else {
            output.append(suit.lengths[sleeve]);
            output.append(suit.states[sleeve]);
        }
    }

    public int renderOrder(int suit) throws NoSuchElementException {
        int count = finder.findByScan(existing(suit));
        output.setLength(0);
        for (int i = 0; i < count; i++) {
            if (i > 0) {
                output.append(',');
            }
            output.append(finder.scanned[i]);
        }
        return output.length();
    }

    public char outputAt(int index) throws IndexOutOfBoundsException {
        if (index < 0 || index >= output.length()) {
            throw new IndexOutOfBoundsException("no such index");
        }
        return output.charAt(index);
    }

    public int type(char character) throws IllegalArgumentException, IllegalStateException {
        if (character < 32 || character > 126) {
            throw new IllegalArgumentException("not a character that can be typed");
        }
        if (script.length == SCRIPT_LIMIT) {
            throw new IllegalStateException("the script buffer is full");
        }
        return script.append(character);
    }

    public int runScript() throws IllegalArgumentException, IllegalStateException {
        int misfit = script.read();
        script.length = 0;
        if (misfit != NONE) {
            errorAt = misfit;
            throw new IllegalArgumentException("the script does not have the required form");
        }
        trial.takeOver(present);
        int refused = script.performIn(trial);
        if (refused != NONE) {
            failedAt = refused;
            throw new IllegalStateException("a command of the script failed");
        }
        adoptTrial();
        return script.commands;
    }

    public int errorPosition() throws NoSuchElementException {
        if (errorAt == NONE) {
            throw new NoSuchElementException("no script had a wrong form");
        }
        return errorAt;
    }

    public int failedCommand() throws NoSuchElementException {
        if (failedAt == NONE) {
            throw new NoSuchElementException("no command of a script failed");
        }
        return failedAt;
    }

    public int undo() throws NoSuchElementException {
        if (undoable == 0) {
            throw new NoSuchElementException("nothing to undo");
        }
        undoable--;
        Workroom undone = present;
        present = past[undoable];
        past[undoable] = undone;
        return undoable;
    }

    public int save() {
        saved.takeOver(present);
        hasSaved = true;
        return present.suitCount;
    }

    public int restore() throws IllegalStateException {
        if (!hasSaved) {
            throw new IllegalStateException("no snapshot");
        }
        present.takeOver(saved);
        undoable = 0;
        return present.suitCount;
    }

    /** A customer's legs; the leg 2 * i and the leg 2 * i + 1 are a pair. */
    private static final class Customer {
        private int legCount = 0;
        private final int[] legs = new int[LEG_LIMIT];

        void takeOver(Customer other) {
            legCount = other.legCount;
            System.arraycopy(other.legs, 0, legs, 0, LEG_LIMIT);
        }

        void begin(int pairCount, int length) {
            legCount = 2 * pairCount;
            for (int i = 0; i < legCount; i++) {
                legs[i] = length;
            }
        }

        boolean hasLeg(int leg) {
            return leg >= 0 && leg < legCount;
        }

        int legSum() {
            int sum = 0;
            for (int i = 0; i < legCount; i++) {
                sum += legs[i];
            }
            return sum;
        }

        boolean hasEvenPairs() {
            for (int i = 0; i + 1 < legCount; i += 2) {
                if (Math.abs(legs[i] - legs[i + 1]) > MIRROR_TOLERANCE) {
                    return false;
                }
            }
            return true;
        }
    }

    /** A suit with its sleeves and demands. A set of sleeves is an int with the bit of each sleeve. */
    private static final class Suit {
        private int id = 0;
        private int customer = 0;
        private int cloth = 0;
        private int sleeves = 0;
        private int demands = 0;
        private final char[] states = new char[LEG_LIMIT];
        private final int[] lengths = new int[LEG_LIMIT];
        // For each sleeve the set of those that a demand wants to be sewn before it.
        private final int[] demanded = new int[LEG_LIMIT];

        void takeOver(Suit other) {
            id = other.id;
            customer = other.customer;
            cloth = other.cloth;
            sleeves = other.sleeves;
            demands = other.demands;
            System.arraycopy(other.states, 0, states, 0, LEG_LIMIT);
            System.arraycopy(other.lengths, 0, lengths, 0, LEG_LIMIT);
            System.arraycopy(other.demanded, 0, demanded, 0, LEG_LIMIT);
        }

        void begin(int newId, int newCustomer, int newCloth, int sleeveCount) {
            id = newId;
            customer = newCustomer;
            cloth = newCloth;
            sleeves = sleeveCount;
            demands = 0;
            for (int i = 0; i < sleeves; i++) {
                states[i] = PLANNED;
                lengths[i] = 0;
                demanded[i] = 0;
            }
        }

        boolean hasSleeve(int sleeve) {
            return sleeve >= 0 && sleeve < sleeves;
        }

        boolean isPlanned(int sleeve) {
            return states[sleeve] == PLANNED;
        }

        boolean isSewn(int sleeve) {
            return states[sleeve] == SEWN;
        }

        int allSleeves() {
            return (1 << sleeves) - 1;
        }

        int sewnSet() {
            int set = 0;
            for (int i = 0; i < sleeves; i++) {
                if (states[i] == SEWN) {
                    set |= 1 << i;
                }
            }
            return set;
        }

        int sewnCount() {
            return Integer.bitCount(sewnSet());
        }

        int unsewnCount() {
            return sleeves - Integer.bitCount(sewnSet());
        }

        boolean fitsAt(int sleeve, Customer wearer) {
            return lengths[sleeve] == wearer.legs[sleeve];
        }

        boolean isFitting(Customer wearer) {
            for (int i = 0; i < sleeves; i++) {
                if (!isPlanned(i) && !fitsAt(i, wearer)) {
                    return false;
                }
            }
            return true;
        }

        boolean hasEvenSleeves() {
            for (int i = 0; i + 1 < sleeves; i += 2) {
                if (isPlanned(i) != isPlanned(i + 1)) {
                    return false;
                }
                if (!isPlanned(i) && Math.abs(lengths[i] - lengths[i + 1]) > MIRROR_TOLERANCE) {
                    return false;
                }
            }
            return true;
        }

        boolean isReadyFor(Customer wearer) {
            return sewnSet() == allSleeves() && isFitting(wearer) && hasEvenSleeves();
        }

        int priceFor(Customer wearer) {
            int sum = DEMAND_PRICE * demands;
            for (int i = 0; i < sleeves; i++) {
                sum += isPlanned(i) ? wearer.legs[i] : lengths[i];
            }
            return sum;
        }

        int clothInside() {
            int sum = 0;
            for (int i = 0; i < sleeves; i++) {
                if (!isPlanned(i)) {
                    sum += lengths[i] + SEAM_ALLOWANCE;
                }
            }
            return sum;
        }

        int neededBySleeve(Customer wearer) {
            int sum = 0;
            for (int i = 0; i < sleeves; i++) {
                if (isPlanned(i)) {
                    sum += wearer.legs[i] + SEAM_ALLOWANCE;
                }
            }
            return sum;
        }

        int neededByDifference(Customer wearer) {
            int difference = wearer.legSum() + SEAM_ALLOWANCE * sleeves;
            for (int i = 0; i < sleeves; i++) {
                if (!isPlanned(i)) {
                    difference -= wearer.legs[i] + SEAM_ALLOWANCE;
                }
            }
            return difference;
        }

        boolean hasDemand(int first, int second) {
            return contains(demanded[second], first);
        }

        int addPair(int first, int second) {
            demanded[second] |= 1 << first;
            demands++;
            return demands;
        }

        /** The sleeves that must be sewn before this one, directly or by way of others. */
        int allBefore(int sleeve) {
            int found = demanded[sleeve];
            // No way through the demands has more steps than there are sleeves.
            for (int step = 0; step < sleeves; step++) {
                int further = found;
                for (int i = 0; i < sleeves; i++) {
                    if (contains(found, i)) {
                        further |= demanded[i];
                    }
                }
                found = further;
            }
            return found;
        }

        boolean comesBefore(int first, int second) {
            return contains(allBefore(second), first);
        }

        boolean hasCycle() {
            for (int i = 0; i < sleeves; i++) {
                if (comesBefore(i, i)) {
                    return true;
                }
            }
            return false;
        }

        boolean isHeldBack(int sleeve, int done) {
            return (demanded[sleeve] & ~done) != 0;
        }

        boolean isSewnInOrder() {
            int sewn = sewnSet();
            for (int i = 0; i < sleeves; i++) {
                if (isSewn(i) && isHeldBack(i, sewn)) {
                    return false;
                }
            }
            return true;
        }

        boolean isNeededBySewn(int sleeve) {
            for (int i = 0; i < sleeves; i++) {
                if (isSewn(i) && hasDemand(sleeve, i)) {
                    return true;
                }
            }
            return false;
        }

        int roundsLeft() {
            int done = sewnSet();
            int count = 0;
            // A round sews at least one sleeve, so there are no more rounds than sleeves.
            for (int i = 0; i < sleeves && done != allSleeves(); i++) {
                done |= freeSleeves(done);
                count++;
            }
            return count;
        }

        private int freeSleeves(int done) {
            int free = 0;
            for (int i = 0; i < sleeves; i++) {
                if (!contains(done, i) && !isHeldBack(i, done)) {
                    free |= 1 << i;
                }
            }
            return free;
        }

        static boolean contains(int set, int sleeve) {
            return (set >> sleeve & 1) == 1;
        }
    }

    /** All that undo and the snapshot cover. */
    private static final class Workroom {
        private final int[] stocks = new int[CLOTHS];
        private final Customer[] customers = new Customer[CUSTOMER_LIMIT];
        private int customerCount = 0;
        // The suits in the order of their ids; those from suitCount on are spare.
        private final Suit[] suits = new Suit[SUIT_LIMIT];
        private int suitCount = 0;
        private int nextId = 0;
        private int bought = 0;
        private int waste = 0;
        private int delivered = 0;
        private int earned = 0;
        private int suitsDelivered = 0;

        Workroom() {
            for (int i = 0; i < CUSTOMER_LIMIT; i++) {
                customers[i] = new Customer();
            }
            for (int i = 0; i < SUIT_LIMIT; i++) {
                suits[i] = new Suit();
            }
        }

        void takeOver(Workroom other) {
            System.arraycopy(other.stocks, 0, stocks, 0, CLOTHS);
            customerCount = other.customerCount;
            for (int i = 0; i < customerCount; i++) {
                customers[i].takeOver(other.customers[i]);
            }
            suitCount = other.suitCount;
            for (int i = 0; i < suitCount; i++) {
                suits[i].takeOver(other.suits[i]);
            }
            nextId = other.nextId;
            bought = other.bought;
            waste = other.waste;
            delivered = other.delivered;
            earned = other.earned;
            suitsDelivered = other.suitsDelivered;
        }

        boolean hasCloth(int cloth) {
            return cloth >= 0 && cloth < CLOTHS;
        }

        boolean hasCustomer(int customer) {
            return customer >= 0 && customer < customerCount;
        }

        Suit suitWithId(int id) {
            for (int i = 0; i < suitCount; i++) {
                if (suits[i].id == id) {
                    return suits[i];
                }
            }
            return null;
        }

        Customer wearerOf(Suit suit) {
            return customers[suit.customer];
        }

        int customerAtRank(int rank) {
            for (int i = 0; i < customerCount; i++) {
                if (rankOf(i) == rank) {
                    return i;
                }
            }
            return NONE;
        }

        private int rankOf(int customer) {
            int sum = customers[customer].legSum();
            int rank = 0;
            for (int i = 0; i < customerCount; i++) {
                int other = customers[i].legSum();
                if (other > sum || other == sum && i < customer) {
                    rank++;
                }
            }
            return rank;
        }

        boolean accountsForCloth() {
            int sum = delivered + waste;
            for (int i = 0; i < CLOTHS; i++) {
                sum += stocks[i];
            }
            for (int i = 0; i < suitCount; i++) {
                sum += suits[i].clothInside();
            }
            return sum == bought;
        }

        /** Answers what the call for this kind of change answers, or a fault if the call throws. */
        int perform(int kind, int first, int second, int third) {
            switch (kind) {
                case BUY_CLOTH:
                    return storeCloth(first, second);
                case ADD_CUSTOMER:
                    return welcome(first, second);
                case FIT_LEG:
                    return measure(first, second, third);
                case ORDER_SUIT:
                    return beginSuit(first, second);
                case CUT_SLEEVE:
                    return cutSleeve(first, second);
                case SEW_SLEEVE:
                    return sewSleeve(first, second);
                case UNPICK_SLEEVE:
                    return unpickSleeve(first, second);
                case ADD_DEMAND:
                    return addDemand(first, second, third);
                case DELIVER_SUIT:
                    return handOver(first);
                default:
                    return throwAway(first);
            }
        }

        private int storeCloth(int cloth, int centimetres) {
            if (!hasCloth(cloth)) {
                return OUT_OF_BOUNDS;
            }
            if (centimetres < 1 || centimetres > PURCHASE_LIMIT) {
                return WRONG_ARGUMENT;
            }
            if (stocks[cloth] + centimetres > STOCK_LIMIT) {
                return UNSUPPORTED;
            }
            stocks[cloth] += centimetres;
            bought += centimetres;
            return stocks[cloth];
        }

        private int welcome(int pairCount, int length) {
            if (pairCount < 1 || pairCount > PAIR_LIMIT || !isLegLength(length)) {
                return WRONG_ARGUMENT;
            }
            if (customerCount == CUSTOMER_LIMIT) {
                return WRONG_STATE;
            }
            customers[customerCount].begin(pairCount, length);
            customerCount++;
            return customerCount - 1;
        }

        private static boolean isLegLength(int length) {
            return length >= SHORTEST_LEG && length <= LONGEST_LEG;
        }

        private int measure(int customer, int leg, int length) {
            if (!hasCustomer(customer) || !customers[customer].hasLeg(leg)) {
                return OUT_OF_BOUNDS;
            }
            if (!isLegLength(length)) {
                return WRONG_ARGUMENT;
            }
            int previous = customers[customer].legs[leg];
            customers[customer].legs[leg] = length;
            return previous;
        }

        private int beginSuit(int customer, int cloth) {
            if (!hasCustomer(customer) || !hasCloth(cloth)) {
                return OUT_OF_BOUNDS;
            }
            if (suitCount == SUIT_LIMIT) {
                return WRONG_STATE;
            }
            suits[suitCount].begin(nextId, customer, cloth, customers[customer].legCount);
            suitCount++;
            nextId++;
            return nextId - 1;
        }

        private int cutSleeve(int id, int sleeve) {
            Suit suit = suitWithId(id);
            if (suit == null) {
                return NO_SUCH_SUIT;
            }
            if (!suit.hasSleeve(sleeve)) {
                return OUT_OF_BOUNDS;
            }
            if (!suit.isPlanned(sleeve)) {
                return WRONG_STATE;
            }
            int length = wearerOf(suit).legs[sleeve];
            if (stocks[suit.cloth] < length + SEAM_ALLOWANCE) {
                return UNSUPPORTED;
            }
            suit.states[sleeve] = CUT;
            suit.lengths[sleeve] = length;
            stocks[suit.cloth] -= length + SEAM_ALLOWANCE;
            return stocks[suit.cloth];
        }

        private int sewSleeve(int id, int sleeve) {
            Suit suit = suitWithId(id);
            if (suit == null) {
                return NO_SUCH_SUIT;
            }
            if (!suit.hasSleeve(sleeve)) {
                return OUT_OF_BOUNDS;
            }
            if (suit.states[sleeve] != CUT) {
                return WRONG_STATE;
            }
            if (suit.isHeldBack(sleeve, suit.sewnSet())) {
                return UNSUPPORTED;
            }
            suit.states[sleeve] = SEWN;
            return suit.sewnCount();
        }

        private int unpickSleeve(int id, int sleeve) {
            Suit suit = suitWithId(id);
            if (suit == null) {
                return NO_SUCH_SUIT;
            }
            if (!suit.hasSleeve(sleeve)) {
                return OUT_OF_BOUNDS;
            }
            if (suit.isPlanned(sleeve)) {
                return WRONG_STATE;
            }
            if (suit.isNeededBySewn(sleeve)) {
                return UNSUPPORTED;
            }
            int lost = suit.lengths[sleeve] + SEAM_ALLOWANCE;
            suit.states[sleeve] = PLANNED;
            waste += lost;
            return lost;
        }

        private int addDemand(int id, int first, int second) {
            Suit suit = suitWithId(id);
            if (suit == null) {
                return NO_SUCH_SUIT;
            }
            if (!suit.hasSleeve(first) || !suit.hasSleeve(second)) {
                return OUT_OF_BOUNDS;
            }
            if (first == second) {
                return WRONG_ARGUMENT;
            }
            if (suit.hasDemand(first, second) || suit.demands == DEMAND_LIMIT
                    || suit.isSewn(second) && !suit.isSewn(first)) {
                return WRONG_STATE;
            }
            if (suit.comesBefore(second, first)) {
                return UNSUPPORTED;
            }
            return suit.addPair(first, second);
        }

        private int handOver(int id) {
            Suit suit = suitWithId(id);
            if (suit == null) {
                return NO_SUCH_SUIT;
            }
            if (!suit.isReadyFor(wearerOf(suit))) {
                return WRONG_STATE;
            }
            int paid = suit.priceFor(wearerOf(suit));
            delivered += suit.clothInside();
            earned += paid;
            suitsDelivered++;
            removeSuit(id);
            return paid;
        }

        private int throwAway(int id) {
            Suit suit = suitWithId(id);
            if (suit == null) {
                return NO_SUCH_SUIT;
            }
            int lost = suit.clothInside();
            waste += lost;
            removeSuit(id);
            return lost;
        }

        /** Moves the suit behind the others, where its rows serve a later suit. */
        private void removeSuit(int id) {
            for (int i = 0; i + 1 < suitCount; i++) {
                if (suits[i].id == id) {
                    Suit moved = suits[i];
                    suits[i] = suits[i + 1];
                    suits[i + 1] = moved;
                }
            }
            suitCount--;
        }
    }

    /** Finds the first sewing order of a suit in two ways, each with a row of its own. */
    private static final class OrderFinder {
        private final int[] scanned = new int[LEG_LIMIT];
        private final int[] queued = new int[LEG_LIMIT];
        // For each sleeve, how many sleeves still hold it back.
        private final int[] holds = new int[LEG_LIMIT];
        private final SleeveQueue queue = new SleeveQueue();

        /** Fills the row scanned and answers how many sleeves the order has. */
        int findByScan(Suit suit) {
            int done = suit.sewnSet();
            int left = suit.unsewnCount();
            int count = 0;
            for (int i = 0; i < left; i++) {
                int next = lowestFree(suit, done);
                if (next == NONE) {
                    return count;
                }
                scanned[count] = next;
                count++;
                done |= 1 << next;
            }
            return count;
        }

        private int lowestFree(Suit suit, int done) {
            for (int i = 0; i < suit.sleeves; i++) {
                if (!Suit.contains(done, i) && !suit.isHeldBack(i, done)) {
                    return i;
                }
            }
            return NONE;
        }

        /** Fills the row queued and answers how many sleeves the order has. */
        int findByQueue(Suit suit) {
            queueFreeSleeves(suit);
            int left = suit.unsewnCount();
            int count = 0;
            for (int i = 0; i < left; i++) {
                int next = queue.takeLowest();
                if (next == NONE) {
                    return count;
                }
                queued[count] = next;
                count++;
                releaseFrom(suit, next);
            }
            return count;
        }

        private void queueFreeSleeves(Suit suit) {
            int sewn = suit.sewnSet();
            queue.size = 0;
            for (int i = 0; i < suit.sleeves; i++) {
                holds[i] = Integer.bitCount(suit.demanded[i] & ~sewn);
                if (holds[i] == 0 && !suit.isSewn(i)) {
                    queue.add(i);
                }
            }
        }

        private void releaseFrom(Suit suit, int sewnNow) {
            for (int i = 0; i < suit.sleeves; i++) {
                if (suit.hasDemand(sewnNow, i)) {
                    holds[i]--;
                    if (holds[i] == 0 && !suit.isSewn(i)) {
                        queue.add(i);
                    }
                }
            }
        }

        boolean bothWaysAgree(Suit suit) {
            int count = findByScan(suit);
            if (findByQueue(suit) != count) {
                return false;
            }
            for (int i = 0; i < count; i++) {
                if (scanned[i] != queued[i]) {
                    return false;
                }
            }
            return true;
        }
    }

    /** A priority queue of sleeves: a binary heap, the lowest sleeve at its top. */
    private static final class SleeveQueue {
        private final int[] heap = new int[LEG_LIMIT];
        private int size = 0;

        void add(int sleeve) {
            if (size == LEG_LIMIT) {
                return;
            }
            heap[size] = sleeve;
            size++;
            for (int child = size - 1; child > 0; child = (child - 1) / 2) {
                swapIfLower(child, (child - 1) / 2);
            }
        }

        int takeLowest() {
            if (size == 0) {
                return NONE;
            }
            int lowest = heap[0];
            size--;
            heap[0] = heap[size];
            sinkTop();
            return lowest;
        }

        private void sinkTop() {
            int parent = 0;
            for (int step = 0; step < size && 2 * parent + 1 < size; step++) {
                int child = lowerChildOf(parent);
                swapIfLower(child, parent);
                parent = child;
            }
        }

        private int lowerChildOf(int parent) {
            int left = 2 * parent + 1;
            return left + 1 < size && heap[left + 1] < heap[left] ? left + 1 : left;
        }

        private void swapIfLower(int child, int parent) {
            if (heap[child] < heap[parent]) {
                int moved = heap[child];
                heap[child] = heap[parent];
                heap[parent] = moved;
            }
        }
    }

    /** The script buffer, and the commands that were read from it. */
    private static final class Script {
        private final char[] text = new char[SCRIPT_LIMIT];
        private int length = 0;
        // A command has at least one character, so there is a place for each.
        private final int[] kinds = new int[SCRIPT_LIMIT];
        private final int[] arguments = new int[SCRIPT_LIMIT * CHANGE_ARGUMENTS];
        private int commands = 0;

        int append(char character) {
            if (length < SCRIPT_LIMIT) {
                text[length] = character;
                length++;
            }
            return length;
        }

        /** Reads the commands and answers the error position, or NONE if the text is a script. */
        int read() {
            commands = 0;
            int at = 0;
            for (int i = 0; i < SCRIPT_LIMIT; i++) {
                int reached = readCommand(at);
                if (reached < 0) {
                    return ~reached;
                }
                commands++;
                if (reached >= length) {
                    return NONE;
                }
                if (text[reached] != ';') {
                    return reached;
                }
                at = reached + 1;
            }
            return at;
        }

        /** Answers the index behind the command, or ~p if the character at p cannot continue it. */
        private int readCommand(int start) {
            int furthest = start;
            for (int kind = 0; kind < CHANGE_KINDS; kind++) {
                int reached = readForm(kind, start);
                if (reached >= 0) {
                    kinds[commands] = kind;
                    return reached;
                }
                furthest = Math.max(furthest, ~reached);
            }
            return ~furthest;
        }

        private int readForm(int kind, int start) {
            String form = formOf(kind);
            int at = start;
            int argument = CHANGE_ARGUMENTS * commands;
            for (int i = 0; i < form.length(); i++) {
                char sign = form.charAt(i);
                int end = endOfSign(sign, at);
                if (end == at) {
                    return ~at;
                }
                if (sign == DIGIT_PLACE || sign == NUMBER_PLACE) {
                    arguments[argument] = valueOf(at, end);
                    argument++;
                }
                at = end;
            }
            return at;
        }

        /** The index behind what the form's sign takes from the text; the same index if it takes nothing. */
        private int endOfSign(char sign, int at) {
            if (sign == DIGIT_PLACE) {
                return endOfDigits(at, 1);
            }
            if (sign == NUMBER_PLACE) {
                return endOfDigits(at, NUMBER_DIGITS);
            }
            return at < length && text[at] == sign ? at + 1 : at;
        }

        private int endOfDigits(int start, int most) {
            int end = start;
            for (int i = 0; i < most && end < length; i++) {
                if (text[end] < '0' || text[end] > '9') {
                    return end;
                }
                end++;
            }
            return end;
        }

        private int valueOf(int start, int end) {
            int value = 0;
            for (int i = start; i < end; i++) {
                value = 10 * value + (text[i] - '0');
            }
            return value;
        }

        private static String formOf(int kind) {
            switch (kind) {
                case BUY_CLOTH:
                    return "buy # @";
                case ADD_CUSTOMER:
                    return "customer # @";
                case FIT_LEG:
                    return "fit # @ @";
                case ORDER_SUIT:
                    return "suit # #";
                case CUT_SLEEVE:
                    return "cut @ @";
                case SEW_SLEEVE:
                    return "sew @ @";
                case UNPICK_SLEEVE:
                    return "unpick @ @";
                case ADD_DEMAND:
                    return "order @ @<@";
                case DELIVER_SUIT:
                    return "deliver @";
                default:
                    return "scrap @";
            }
        }

        /** Performs the commands in order and answers the index of the refused one, or NONE. */
        int performIn(Workroom room) {
            for (int i = 0; i < commands; i++) {
                int place = CHANGE_ARGUMENTS * i;
                int answer = room.perform(kinds[i], arguments[place], arguments[place + 1], arguments[place + 2]);
                if (answer < 0) {
                    return i;
                }
            }
            return NONE;
        }
    }
}

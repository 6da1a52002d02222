import java.lang.reflect.Array;
import java.lang.reflect.Field;

/**
 * Promise 44: the check answers false when the state is wrong. No run of calls brings a wrong state about,
 * so it is put into the private fields; what must not change is that isConsistent sees it.
 */
public final class ConsistencyTest {
    private static final Checks CHECKS = new Checks();

    private ConsistencyTest() {
    }

    public static void main(String[] arguments) throws Exception {
        lostCloth();
        cycle();
        selfDemand();
        sewnTooEarly();
        neededClothDiffers();
        CHECKS.end();
    }

    /** Two suits with two pairs of sleeves each, so that a fault in the later one has to be seen too. */
    private static TailorWorkshop workshop() {
        TailorWorkshop x = Workshops.withSuit();
        x.orderSuit(0, 0);
        x.demand(1, 0, 3);
        x.cut(1, 3);
        return x;
    }

    private static void lostCloth() throws Exception {
        for (String total : new String[] {"bought", "waste", "delivered"}) {
            TailorWorkshop x = workshop();
            Object room = read(x, "present");
            setNumber(room, total, (int) read(room, total) + 1);
            seen(x, total);
        }
        for (int cloth = 0; cloth < 4; cloth++) {
            TailorWorkshop x = workshop();
            int[] stocks = (int[]) read(read(x, "present"), "stocks");
            stocks[cloth]++;
            seen(x, "stock " + cloth);
        }
        TailorWorkshop x = workshop();
        ((int[]) read(suit(x, 1), "lengths"))[3]++;
        seen(x, "a piece longer than what was cut");
    }

    private static void cycle() throws Exception {
        for (int suit = 0; suit < 2; suit++) {
            TailorWorkshop x = workshop();
            demanded(x, suit)[1] |= 1 << 2;
            CHECKS.due(44, x.isConsistent(), true);
            demanded(x, suit)[2] |= 1 << 1;
            seen(x, "a cycle in the suit " + suit);
        }
    }

    private static void selfDemand() throws Exception {
        for (int sleeve = 0; sleeve < 4; sleeve++) {
            TailorWorkshop x = workshop();
            demanded(x, 1)[sleeve] |= 1 << sleeve;
            seen(x, "the sleeve " + sleeve + " before itself");
        }
    }

    private static void sewnTooEarly() throws Exception {
        TailorWorkshop x = workshop();
        ((char[]) read(suit(x, 1), "states"))[3] = 's';
        seen(x, "sewn before the sleeve that the demand names");
        TailorWorkshop y = workshop();
        y.cut(1, 0);
        char[] states = (char[]) read(suit(y, 1), "states");
        states[0] = 's';
        states[3] = 's';
        CHECKS.due(44, "both are sewn", y.isConsistent(), true);
        TailorWorkshop z = workshop();
        z.demand(0, 3, 0);
        z.cut(0, 0);
        ((char[]) read(suit(z, 0), "states"))[0] = 's';
        seen(z, "the sleeve 0 too");
    }

    private static void neededClothDiffers() throws Exception {
        TailorWorkshop x = workshop();
        Object customer = Array.get(read(read(x, "present"), "customers"), 0);
        setNumber(customer, "legCount", 2);
        seen(x, "the sleeves need other lengths than the legs");
    }

    private static void seen(TailorWorkshop x, String what) {
        CHECKS.due(44, what, x.isConsistent(), false);
    }

    private static Object suit(TailorWorkshop x, int position) throws Exception {
        return Array.get(read(read(x, "present"), "suits"), position);
    }

    private static int[] demanded(TailorWorkshop x, int position) throws Exception {
        return (int[]) read(suit(x, position), "demanded");
    }

    private static Object read(Object holder, String name) throws Exception {
        return field(holder, name).get(holder);
    }

    private static void setNumber(Object holder, String name, int value) throws Exception {
        field(holder, name).setInt(holder, value);
    }

    private static Field field(Object holder, String name) throws Exception {
        Field field = holder.getClass().getDeclaredField(name);
        field.setAccessible(true);
        return field;
    }
}

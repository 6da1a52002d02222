import java.util.ArrayList;
import java.util.List;

/** The sentences of the heading "Terms" on seams. */
final class SewingTerms {
    private static final int SLEEVES = 4;

    private SewingTerms() {
    }

    static void tell(Book book) {
        demands(book);
        cycles(book);
        sewing(book);
        orders(book);
    }

    private static TailorWorkshop withDemands(int count) {
        TailorWorkshop x = Workshops.withSuit(8, 20);
        x.orderSuit(0, 0);
        for (int i = 0; i < count; i++) {
            x.demand(0, i, 15);
        }
        return x;
    }

    private static void demands(Book book) {
        book.test("For each suit, some pairs of sleeves have the demand that the first sleeve is sewn before the second"
                + " one.", () -> {
            TailorWorkshop x = Workshops.withSuit();
            x.orderSuit(0, 0);
            book.due("none at first", x.demandCount(0) + " " + x.demandCount(1), "0 0");
            x.demand(0, 1, 2);
            book.due("of one suit", x.isBefore(0, 1, 2) + " " + x.isBefore(1, 1, 2), "true false");
            book.due("not the other way", x.isBefore(0, 2, 1), false);
            x.scrap(0);
            x.orderSuit(0, 0);
            book.due("a later suit has none", x.demandCount(2) + " " + x.isBefore(2, 1, 2), "0 false");
        });
        book.test("At most 12 demands exist for a suit.", () -> {
            book.due("the twelfth", withDemands(11).demand(0, 11, 15), 12);
            for (int sleeve = 12; sleeve < 15; sleeve++) {
                int one = sleeve;
                book.refused(IllegalStateException.class, () -> withDemands(12), x -> x.demand(0, one, 15));
            }
            TailorWorkshop x = withDemands(12);
            for (int i = 0; i < 12; i++) {
                book.due("another suit has its own", x.demand(1, 15, i), i + 1);
            }
            TailorWorkshop y = withDemands(12);
            y.undo();
            book.due("one is undone", y.demand(0, 14, 15), 12);
        });
    }

    /** For each set of pairs of four sleeves: the set is asked for pair by pair, and each pair that closes a cycle. */
    private static void cycles(Book book) {
        book.test("Demands of a suit never form a cycle.", () -> {
            for (int set = 0; set < 1 << SLEEVES * SLEEVES; set += 7) {
                TailorWorkshop x = Workshops.withSuit();
                boolean[] pairs = new boolean[SLEEVES * SLEEVES];
                for (int i = 0; i < pairs.length; i++) {
                    int pair = 5 * i % pairs.length;
                    if ((set >> pair & 1) == 1 && pair / SLEEVES != pair % SLEEVES) {
                        askFor(book, x, pairs, pair);
                    }
                }
            }
            book.refused("of the most that can be", UnsupportedOperationException.class, () -> {
                TailorWorkshop x = Workshops.withSuit(8, 20);
                for (int i = 0; i < 11; i++) {
                    x.demand(0, 15 - i, 14 - i);
                }
                return x;
            }, x -> x.demand(0, 4, 15));
        });
    }

    private static void askFor(Book book, TailorWorkshop x, boolean[] pairs, int pair) {
        int first = pair / SLEEVES;
        int second = pair % SLEEVES;
        boolean isCycle = leads(pairs, second, first, SLEEVES);
        pairs[pair] = !isCycle;
        book.due(first + " before " + second, Checks.thrownBy(() -> x.demand(0, first, second)).substring(0, 6),
                isCycle ? "Unsupp" : "answer");
    }

    private static boolean leads(boolean[] pairs, int from, int to, int steps) {
        for (int next = 0; next < SLEEVES; next++) {
            if (pairs[SLEEVES * from + next] && (next == to || steps > 0 && leads(pairs, next, to, steps - 1))) {
                return true;
            }
        }
        return false;
    }

    private static void sewing(Book book) {
        book.test("A sleeve can be sewn if it is cut and all sleeves that a demand wants to be sewn before it"
                + " are sewn.", () -> {
            for (int cut = 0; cut < 1 << SLEEVES; cut++) {
                for (int sewn = 0; sewn < 1 << SLEEVES; sewn++) {
                    sewLast(book, cut, sewn & cut & 7);
                }
            }
        });
    }

    /** The sleeves 0 and 2 are before the sleeve 3; those of the sets are cut, and sewn. */
    private static void sewLast(Book book, int cut, int sewn) {
        Book.Maker maker = () -> {
            TailorWorkshop x = Workshops.withSuit();
            x.demand(0, 0, 3);
            x.demand(0, 2, 3);
            for (int i = 0; i < SLEEVES; i++) {
                if ((cut >> i & 1) == 1) {
                    x.cut(0, i);
                }
                if ((sewn >> i & 1) == 1) {
                    x.sew(0, i);
                }
            }
            return x;
        };
        String what = "cut " + cut + ", sewn " + sewn;
        if ((cut & 8) == 0) {
            book.refused(what, IllegalStateException.class, maker, x -> x.sew(0, 3));
        } else if ((sewn & 5) != 5) {
            book.refused(what, UnsupportedOperationException.class, maker, x -> x.sew(0, 3));
        } else {
            book.due(what, maker.make().sew(0, 3), Integer.bitCount(sewn) + 1);
        }
    }

    private static void orders(Book book) {
        book.test("A sewing order is an order of all sleeves of the suit that are not sewn, in which all demands are"
                + " met; the first sewing order is the one whose first sleeve has the lowest number that is possible,"
                + " then whose second sleeve has the lowest number that is possible, and so on.", () -> {
            for (int set = 0; set < 1 << SLEEVES * SLEEVES; set += 5) {
                TailorWorkshop x = Workshops.withSuit();
                List<int[]> pairs = new ArrayList<>();
                for (int pair = 0; pair < SLEEVES * SLEEVES; pair++) {
                    int first = pair / SLEEVES;
                    int second = pair % SLEEVES;
                    if ((set >> pair & 1) == 1
                            && Checks.thrownBy(() -> x.demand(0, first, second)).startsWith("answer")) {
                        pairs.add(new int[] {first, second});
                    }
                }
                sewFromTheLast(book, x, pairs);
            }
        });
    }

    /** Sews the highest sleeve that can be sewn, again and again, and looks at the order of those that are left. */
    private static void sewFromTheLast(Book book, TailorWorkshop x, List<int[]> pairs) {
        List<Integer> left = new ArrayList<>(List.of(0, 1, 2, 3));
        while (!left.isEmpty()) {
            String due = first(new ArrayList<>(), left, pairs).toString().replaceAll("[\\[ \\]]", "");
            book.due("by scan", Views.orderOf(x, 0), due);
            book.due("by queue", Views.orderByQueueOf(x, 0), due);
            int highest = left.stream().filter(i -> isFree(i, left, pairs)).max(Integer::compare).orElseThrow();
            Workshops.cutAndSew(x, 0, highest);
            left.remove(Integer.valueOf(highest));
        }
        book.due("all are sewn", Views.orderOf(x, 0) + Views.orderByQueueOf(x, 0), "");
    }

    private static boolean isFree(int sleeve, List<Integer> left, List<int[]> pairs) {
        return pairs.stream().noneMatch(pair -> pair[1] == sleeve && left.contains(pair[0]));
    }

    /** Tries all orders, those with a low number in front first; null if none goes on from this beginning. */
    private static List<Integer> first(List<Integer> begun, List<Integer> left, List<int[]> pairs) {
        if (left.isEmpty()) {
            return begun;
        }
        for (Integer next : left) {
            List<Integer> others = new ArrayList<>(left);
            others.remove(next);
            List<Integer> longer = new ArrayList<>(begun);
            longer.add(next);
            List<Integer> found = isMet(longer, others, pairs) ? first(longer, others, pairs) : null;
            if (found != null) {
                return found;
            }
        }
        return null;
    }

    private static boolean isMet(List<Integer> begun, List<Integer> left, List<int[]> pairs) {
        return pairs.stream().noneMatch(pair -> begun.contains(pair[1]) && left.contains(pair[0]));
    }
}

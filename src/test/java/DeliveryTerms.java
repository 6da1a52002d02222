/** The sentences of the heading "Terms" on fittings, mirrors, delivery and prices. */
final class DeliveryTerms {
    private static final Class<IllegalStateException> STATE = IllegalStateException.class;

    private DeliveryTerms() {
    }

    static void tell(Book book) {
        finished(book);
        fittings(book);
        fittingSuits(book);
        unpicking(book);
        mirrors(book);
        delivery(book);
        price(book);
    }

    /** A suit with the most sleeves, all sewn but for one, which is planned. */
    private static TailorWorkshop withOnePlanned(int sleeve) {
        TailorWorkshop x = Workshops.withSewnSuit(8, 20);
        x.unpick(0, sleeve);
        return x;
    }

    private static void finished(Book book) {
        book.test("A suit is finished when all its sleeves are sewn.", () -> {
            for (int sleeve = 0; sleeve < 16; sleeve++) {
                int one = sleeve;
                TailorWorkshop x = withOnePlanned(sleeve);
                String what = "the sleeve " + sleeve;
                book.due(what + " is planned", x.canDeliver(0), false);
                book.refused(what + " is planned", STATE, () -> withOnePlanned(one), y -> y.deliver(0));
                x.cut(0, sleeve);
                book.due(what + " is cut", x.canDeliver(0), false);
                book.due(what + " is cut", Checks.thrownBy(() -> x.deliver(0)), "IllegalStateException");
                x.sew(0, sleeve);
                book.due(what + " is sewn", x.canDeliver(0), true);
            }
        });
    }

    private static void fittings(Book book) {
        book.test("At a fitting, the length of a leg changes.", () -> {
            TailorWorkshop x = Workshops.withSewnSuit();
            x.fit(0, 2, 31);
            book.due("of this leg", x.legLength(0, 2), 31);
            String others = x.legLength(0, 0) + " " + x.legLength(0, 1) + " " + x.legLength(0, 3);
            book.due("of no other leg", others, "20 20 20");
            book.due("of no sleeve", x.sleeveLength(0, 2), 20);
        });
        book.test("A sewn or cut sleeve fits if its length is the present length of its leg.", () -> {
            for (boolean isSewn : new boolean[] {true, false}) {
                TailorWorkshop x = Workshops.withSuit();
                x.cut(0, 1);
                x.fit(0, 0, 35);
                if (isSewn) {
                    x.sew(0, 1);
                }
                for (int length = 10; length <= 60; length++) {
                    x.fit(0, 1, length);
                    book.due("sewn " + isSewn + ", its leg " + length, x.doesFit(0, 1), length == 20);
                }
            }
        });
    }

    private static void fittingSuits(Book book) {
        book.test("A suit is fitting if all its cut and sewn sleeves fit.", () -> {
            for (int leg = 0; leg < 16; leg++) {
                TailorWorkshop x = Workshops.withSewnSuit(8, 20);
                for (int length : new int[] {19, 21, 10, 60}) {
                    x.fit(0, leg, length);
                    book.due("the leg " + leg + " is " + length, x.canDeliver(0), false);
                }
                book.due("deliver", Checks.thrownBy(() -> x.deliver(0)), "IllegalStateException");
                x.fit(0, leg, 20);
                book.due("the leg " + leg + " is 20 again", x.canDeliver(0), true);
            }
        });
    }

    private static void unpicking(Book book) {
        book.test("A sleeve that is cut or sewn can be unpicked: it is planned again, and its cloth becomes waste.",
                () -> {
            for (boolean isSewn : new boolean[] {true, false}) {
                TailorWorkshop x = Workshops.withSuit();
                x.cut(0, 2);
                x.fit(0, 2, 60);
                if (isSewn) {
                    x.sew(0, 2);
                }
                book.due("what becomes waste", x.unpick(0, 2), 22);
                book.due("what stands", Views.room(x), "stocks 977 0 0 0 totals 999 22 0 0 0\n"
                        + "customer 0: 20 20 60 20\nsuit 0 of 0 for 0: p p p p demands 0 order 0,1,2,3");
            }
            book.refused("a planned one cannot", STATE, Workshops::withSuit, x -> x.unpick(0, 2));
        });
    }

    private static void mirrors(Book book) {
        book.test("A suit is mirrored if, for each pair of legs, both sleeves are planned, or both are cut or sewn with"
                + " lengths that differ by at most 1 centimetre.", () -> {
            for (int sleeve = 0; sleeve < 16; sleeve++) {
                for (int length = 17; length <= 23; length++) {
                    TailorWorkshop x = Workshops.withSewnSuit(8, 20);
                    x.buyCloth(0, 99);
                    Workshops.refit(x, 0, sleeve, length);
                    boolean isMirrored = length >= 19 && length <= 21;
                    book.due("the sleeve " + sleeve + " is " + length, x.canDeliver(0), isMirrored);
                    book.due("deliver", Checks.thrownBy(() -> x.deliver(0)),
                            isMirrored ? "answer " + (300 + length) : "IllegalStateException");
                }
            }
        });
    }

    /** Two pairs: the first leaves a suit unfinished, unfitting or unmirrored, whatever the second does. */
    private static TailorWorkshop with(boolean isFinished, boolean isFitting, boolean isMirrored) {
        TailorWorkshop x = Workshops.withSuit();
        x.fit(0, 0, isMirrored ? 21 : 22);
        Workshops.cutAndSew(x, 0, 0, 1, 2);
        x.cut(0, 3);
        if (isFinished) {
            x.sew(0, 3);
        }
        x.fit(0, 1, isFitting ? 20 : 21);
        return x;
    }

    private static void delivery(Book book) {
        book.test("A suit can be delivered if it is finished, fitting and mirrored.", () -> {
            for (int kind = 0; kind < 7; kind++) {
                int each = kind;
                Book.Maker maker = () -> with((each & 1) != 0, (each & 2) != 0, (each & 4) != 0);
                book.due("kind " + kind, maker.make().canDeliver(0), false);
                book.refused("kind " + kind, STATE, maker, x -> x.deliver(0));
            }
            book.due("it can", with(true, true, true).canDeliver(0), true);
            book.due("it can", with(true, true, true).deliver(0), 81);
        });
    }

    private static void price(Book book) {
        book.test("The price of a suit is the sum of the lengths of its sleeves, plus 3 for each of its demands.",
                () -> {
            for (int demands = 0; demands <= 12; demands++) {
                TailorWorkshop x = Workshops.withSuit(8, 60);
                for (int i = 0; i < demands; i++) {
                    x.demand(0, i, 15);
                }
                for (int i = 0; i < 16; i++) {
                    x.fit(0, i, 60 - i / 2);
                    Workshops.cutAndSew(x, 0, i);
                }
                int due = 2 * (60 + 59 + 58 + 57 + 56 + 55 + 54 + 53) + 3 * demands;
                book.due(demands + " demands", x.price(0), due);
                book.due(demands + " demands, delivered", x.deliver(0), due);
                book.due(demands + " demands, the income", x.income(), due);
            }
        });
    }
}

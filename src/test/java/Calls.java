/** Calls of one kind, one for each method. */
final class Calls {
    private Calls() {
    }

    /** Each call that names a suit, with sleeves that every suit has. */
    static Book.Call[] ofSuit(int suit) {
        return new Book.Call[] {x -> x.cut(suit, 0), x -> x.sew(suit, 0), x -> x.unpick(suit, 0),
            x -> x.demand(suit, 0, 1), x -> x.deliver(suit), x -> x.scrap(suit), x -> x.customerOf(suit),
            x -> x.clothOf(suit), x -> x.sleeveState(suit, 0), x -> x.sleeveLength(suit, 0), x -> x.doesFit(suit, 0),
            x -> x.sewnSleeves(suit), x -> x.demandCount(suit), x -> x.isBefore(suit, 0, 1), x -> x.canDeliver(suit),
            x -> x.price(suit), x -> x.sleevesLeft(suit), x -> x.sewingOrder(suit, 0),
            x -> x.sewingOrderByQueue(suit, 0), x -> x.rounds(suit), x -> x.clothNeeded(suit),
            x -> x.clothNeededByDifference(suit), x -> x.renderSuit(suit), x -> x.renderOrder(suit)};
    }

    /** Each call that names a suit and one of its sleeves. */
    static Book.Call[] ofSleeve(int suit, int sleeve) {
        return new Book.Call[] {x -> x.cut(suit, sleeve), x -> x.sew(suit, sleeve), x -> x.unpick(suit, sleeve),
            x -> x.demand(suit, sleeve, 0), x -> x.demand(suit, 0, sleeve), x -> x.sleeveState(suit, sleeve),
            x -> x.sleeveLength(suit, sleeve), x -> x.doesFit(suit, sleeve), x -> x.isBefore(suit, sleeve, 0),
            x -> x.isBefore(suit, 0, sleeve)};
    }

    /** Each call that names a customer. */
    static Book.Call[] ofCustomer(int customer) {
        return new Book.Call[] {x -> x.fit(customer, 0, 20), x -> x.orderSuit(customer, 0), x -> x.pairs(customer),
            x -> x.legLength(customer, 0), x -> x.mirrorLeg(customer, 0), x -> x.isMirrored(customer),
            x -> x.meanLeg(customer)};
    }

    /** Each call that names a customer and one of the legs. */
    static Book.Call[] ofLeg(int customer, int leg) {
        return new Book.Call[] {x -> x.fit(customer, leg, 20), x -> x.legLength(customer, leg),
            x -> x.mirrorLeg(customer, leg)};
    }

    /** Each call that is no change and neither undoes nor restores one; of the suit 1 the sleeve 1 is cut, not sewn. */
    static Book.Call[] questions() {
        return new Book.Call[] {x -> x.stock(0), x -> x.customerCount(), x -> x.pairs(0), x -> x.legLength(0, 0),
            x -> x.mirrorLeg(0, 0), x -> x.isMirrored(0), x -> x.customerByLegs(0), x -> x.suitCount(),
            x -> x.suitAt(0), x -> x.customerOf(1), x -> x.clothOf(1), x -> x.sleeveState(1, 1),
            x -> x.sleeveLength(1, 1), x -> x.doesFit(1, 1), x -> x.sewnSleeves(1), x -> x.demandCount(1),
            x -> x.isBefore(1, 0, 1), x -> x.canDeliver(1), x -> x.price(1), x -> x.sleevesLeft(1),
            x -> x.sewingOrder(1, 0), x -> x.sewingOrderByQueue(1, 0), x -> x.rounds(1), x -> x.clothNeeded(1),
            x -> x.clothNeededByDifference(1),
            x -> x.boughtTotal(), x -> x.wasteTotal(), x -> x.deliveredTotal(), x -> x.income(),
            x -> x.deliveredSuits(), x -> x.meanLeg(0), x -> x.wasteShare(), x -> x.isConsistent(),
            x -> x.renderSuit(1), x -> x.renderOrder(1), x -> x.outputAt(0), x -> x.type('b'),
            x -> x.errorPosition(), x -> x.failedCommand(), x -> x.save()};
    }
}

/** Promises 12 to 14: price, loss and gain. */
public final class WhatIfTest {
    private static final Checks CHECKS = new Checks();
    private static final int LEAST_INT = Integer.MIN_VALUE;
    private static final int MOST_INT = Integer.MAX_VALUE;

    public static void main(String[] args) {
        priceIsTheLeastWorthThatIsChosen();
        priceDoesNotHangOnTheJobsOwnWorth();
        priceAtTheEdges();
        priceOfNoJobIsNone();
        lossIsWhatOnePlaceFewerCosts();
        lossWithoutRoomIsNone();
        gainIsWhatOnePlaceMoreBrings();
        gainOfAFourthPlace();
        gainOutsideTheSlotsIsNone();
        nothingChanges();
        CHECKS.finish();
    }

    private static void priceIsTheLeastWorthThatIsChosen() {
        SlotMarket x = new SlotMarket(7, 1);
        x.bring(2, 2, 3);
        x.bring(2, 2, 12);
        x.bring(2, 2, 7);
        CHECKS.due("lower number, equal worth is enough: price(0)", x.price(0), 12);
        CHECKS.due("lower than 2, higher than 0: price(1)", x.price(1), 7);
        CHECKS.due("higher number, one more is needed: price(2)", x.price(2), 13);
        x.setRoom(2, 2);
        CHECKS.due("two places: price(0)", x.price(0), 7);
        CHECKS.due("two places: price(1)", x.price(1), 4);
        CHECKS.due("two places: price(2)", x.price(2), 4);
    }

    private static void priceDoesNotHangOnTheJobsOwnWorth() {
        SlotMarket x = new SlotMarket(7, 1);
        x.bring(0, 0, 9);
        x.bring(0, 0, 1);
        for (int worth = 1; worth <= 20; worth++) {
            x.revalue(1, worth);
            CHECKS.due("own worth " + worth + ": price(1)", x.price(1), 10);
            CHECKS.due("own worth " + worth + ": price(0)", x.price(0), worth);
        }
    }

    private static void priceAtTheEdges() {
        SlotMarket x = new SlotMarket(7, 1);
        x.bring(0, 0, 20);
        x.bring(0, 0, 20);
        CHECKS.due("20 is enough: price(0)", x.price(0), 20);
        CHECKS.due("20 is not enough: price(1)", x.price(1), 21);
        x.revalue(0, 19);
        CHECKS.due("20 against 19: price(1)", x.price(1), 20);
        x.setRoom(0, 2);
        CHECKS.due("a place of its own: price(0)", x.price(0), 1);
        CHECKS.due("a place of its own: price(1)", x.price(1), 1);
        x.setRoom(0, 0);
        CHECKS.due("no place at all: price(0)", x.price(0), 21);
        CHECKS.due("no place at all: price(1)", x.price(1), 21);
    }

    private static void priceOfNoJobIsNone() {
        SlotMarket x = new SlotMarket(7, 1);
        x.bring(0, 0, 5);
        x.bring(0, 0, 5);
        x.take(0);
        int[] absent = {0, 2, 6, 7, 32, 33, -1, -31, LEAST_INT, MOST_INT};
        for (int id : absent) {
            CHECKS.due("price(" + id + ")", x.price(id), SlotMarket.NONE);
        }
        CHECKS.due("price(1)", x.price(1), 1);
    }

    private static void lossIsWhatOnePlaceFewerCosts() {
        SlotMarket x = new SlotMarket(7, 0);
        x.setRoom(3, 2);
        x.setRoom(4, 1);
        x.bring(3, 3, 8);
        x.bring(3, 4, 5);
        CHECKS.due("a spare place: loss(3)", x.loss(3), 0);
        CHECKS.due("a spare place: loss(4)", x.loss(4), 0);
        x.bring(4, 4, 6);
        CHECKS.due("no spare place: loss(3)", x.loss(3), 5);
        CHECKS.due("no spare place: loss(4)", x.loss(4), 6);
        x.bring(4, 4, 2);
        x.setRoom(3, 3);
        CHECKS.due("one waits elsewhere: loss(3)", x.loss(3), 0);
        x.take(2);
        CHECKS.due("one waiting is less: loss(4)", x.loss(4), 2);
    }

    private static void lossWithoutRoomIsNone() {
        SlotMarket x = new SlotMarket(7, 1);
        x.bring(0, 11, 5);
        x.setRoom(6, 0);
        CHECKS.due("loss(6)", x.loss(6), SlotMarket.NONE);
        CHECKS.due("loss(0)", x.loss(0), 0);
        CHECKS.due("loss(11)", x.loss(11), 0);
        int[] wrong = {-1, 12, LEAST_INT, MOST_INT};
        for (int s : wrong) {
            CHECKS.due("loss(" + s + ")", x.loss(s), SlotMarket.NONE);
        }
    }

    private static void gainIsWhatOnePlaceMoreBrings() {
        SlotMarket x = new SlotMarket(7, 0);
        x.bring(5, 6, 4);
        x.bring(6, 7, 9);
        CHECKS.due("none has room: gain(5)", x.gain(5), 4);
        CHECKS.due("none has room: gain(6)", x.gain(6), 9);
        CHECKS.due("none has room: gain(8)", x.gain(8), 0);
        x.setRoom(6, 1);
        CHECKS.due("6 has room: gain(5)", x.gain(5), 4);
        CHECKS.due("6 has room: gain(6)", x.gain(6), 4);
        CHECKS.due("6 has room, 1 makes way: gain(7)", x.gain(7), 4);
        x.setRoom(7, 1);
        CHECKS.due("both chosen: gain(5)", x.gain(5), 0);
    }

    private static void gainOfAFourthPlace() {
        SlotMarket x = new SlotMarket(7, 3);
        for (int id = 0; id < 5; id++) {
            x.bring(11, 11, 10 + id);
        }
        CHECKS.due("three of five: total()", x.total(), 39);
        CHECKS.due("a fourth place: gain(11)", x.gain(11), 11);
        CHECKS.due("another slot: gain(10)", x.gain(10), 0);
        CHECKS.due("still three: room(11)", x.room(11), 3);
    }

    private static void gainOutsideTheSlotsIsNone() {
        SlotMarket x = new SlotMarket(7, 0);
        x.bring(0, 11, 5);
        int[] wrong = {-1, 12, LEAST_INT, MOST_INT};
        for (int s : wrong) {
            CHECKS.due("gain(" + s + ")", x.gain(s), SlotMarket.NONE);
        }
        CHECKS.due("gain(0)", x.gain(0), 5);
        CHECKS.due("gain(11)", x.gain(11), 5);
    }

    private static void nothingChanges() {
        SlotMarket x = new SlotMarket(7, 1);
        x.bring(0, 1, 5);
        x.bring(0, 0, 15);
        x.bring(1, 1, 10);
        for (int round = 0; round < 3; round++) {
            CHECKS.due("again: price(0)", x.price(0), 10);
            CHECKS.due("again: loss(0)", x.loss(0), 15);
            CHECKS.due("again: gain(1)", x.gain(1), 5);
            CHECKS.due("again: worth(0)", x.worth(0), 5);
            CHECKS.due("again: room(0)", x.room(0), 1);
            CHECKS.due("again: room(1)", x.room(1), 1);
            CHECKS.due("again: chosen()", x.chosen(), 0b110);
            CHECKS.due("again: total()", x.total(), 25);
            CHECKS.due("again: fits(111)", x.fits(0b111), false);
        }
    }
}

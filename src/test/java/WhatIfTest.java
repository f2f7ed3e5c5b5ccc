/** The sentences of promises 12 (price), 13 (loss) and 14 (gain). */
public final class WhatIfTest {
    private static final Checks CHECKS = new Checks();
    private static final int NONE = SlotMarket.NONE;

    public static void main(String[] args) {
        priceIsTheLeastWorthThatIsChosen();
        priceAtEveryWorthOfTheOther();
        priceLeavesTheOthersAsTheyAre();
        priceDoesNotHangOnTheJobsOwnWorth();
        priceWhenThereIsNone();
        priceOfNoJobIsNone();
        priceChangesNothing();
        lossIsWhatOnePlaceFewerCosts();
        lossAtEveryRoom();
        lossOutsideTheSlotsIsNone();
        lossWithoutRoomIsNone();
        lossChangesNothing();
        gainIsWhatOnePlaceMoreBrings();
        gainAtEveryRoom();
        gainOfAFourthPlace();
        gainOutsideTheSlotsIsNone();
        gainChangesNothing();
        CHECKS.finish();
    }

    private static void priceIsTheLeastWorthThatIsChosen() {
        CHECKS.says("Promise 12", "The least worth, from 1 to 20, with which job id would be in the chosen set,");
        SlotMarket x = new SlotMarket(7, 1);
        x.bring(2, 2, 3);
        x.bring(2, 2, 12);
        x.bring(2, 2, 7);
        CHECKS.due("lower number, equal worth is enough: price(0)", x.price(0), 12);
        CHECKS.due("lower than 2, higher than 0: price(1)", x.price(1), 7);
        CHECKS.due("higher number, one more is needed: price(2)", x.price(2), 13);
        x.setRoom(2, 2);
        CHECKS.due("two places: price(0)", x.price(0), 7);
        CHECKS.due("two places: price(1)", x.price(1), 4);
        CHECKS.due("two places: price(2)", x.price(2), 4);
        x.setRoom(2, 3);
        CHECKS.due("three places: price(0)", x.price(0), 1);
        CHECKS.due("three places: price(1)", x.price(1), 1);
        CHECKS.due("three places: price(2)", x.price(2), 1);
        // 4 goes before 5 with the same worth of 9, and takes its place.
        duePrices("CROWDED", Sample.CROWDED.make(), 5, 6, 6, 6, 9, 6, 1);
        duePrices("GAPPY", Sample.GAPPY.make(), 4, NONE, 1, NONE, 5, NONE, NONE);
    }

    private static void duePrices(String run, SlotMarket x, int... prices) {
        for (int id = 0; id < prices.length; id++) {
            CHECKS.due(run + ": price(" + id + ")", x.price(id), prices[id]);
        }
    }

    private static void priceAtEveryWorthOfTheOther() {
        CHECKS.says("Promise 12", "The least worth, from 1 to 20,");
        for (int worth = 1; worth <= 20; worth++) {
            SlotMarket x = new SlotMarket(7, 1);
            x.bring(9, 9, worth);
            x.bring(9, 9, worth);
            CHECKS.due("against 1 with " + worth + ": price(0)", x.price(0), worth);
            CHECKS.due("against 0 with " + worth + ": price(1)", x.price(1), worth + 1);
        }
    }

    private static void priceLeavesTheOthersAsTheyAre() {
        CHECKS.says("Promise 12", "all other jobs and the rooms being as they are;");
        SlotMarket x = new SlotMarket(7, 1);
        x.bring(0, 1, 5);
        x.bring(0, 0, 15);
        x.bring(1, 1, 10);
        duePrices("all contend", x, 10, 6, 6);
        x.revalue(2, 4);
        duePrices("another worth", x, 4, 4, 6);
        x.setRoom(1, 2);
        duePrices("another room", x, 1, 1, 1);
        x.setRoom(1, 1);
        x.take(1);
        duePrices("a job fewer", x, 1, NONE, 1);
    }

    private static void priceDoesNotHangOnTheJobsOwnWorth() {
        CHECKS.says("Promise 12", "with which job id would be in the chosen set");
        SlotMarket x = new SlotMarket(7, 1);
        x.bring(0, 0, 9);
        x.bring(0, 0, 1);
        for (int worth = 1; worth <= 20; worth++) {
            x.revalue(1, worth);
            CHECKS.due("own worth " + worth + ": price(1)", x.price(1), 10);
        }
    }

    private static void priceWhenThereIsNone() {
        CHECKS.says("Promise 12", "21 when there is none;");
        SlotMarket x = new SlotMarket(7, 1);
        x.bring(0, 0, 20);
        x.bring(0, 0, 20);
        duePrices("20 is enough for 0, not for 1", x, 20, 21);
        x.revalue(0, 19);
        duePrices("20 is enough for 1", x, 20, 20);
        x.setRoom(0, 0);
        duePrices("no place at all", x, 21, 21);
        x.setRoom(0, 2);
        duePrices("a place for each", x, 1, 1);
        CHECKS.due("ROOMLESS: price(0)", Sample.ROOMLESS.make().price(0), 21);
        SlotMarket three = new SlotMarket(7, 3);
        for (int i = 0; i < 4; i++) {
            three.bring(11, 11, 20);
        }
        duePrices("three places, four worth 20", three, 20, 20, 20, 21);
    }

    private static void priceOfNoJobIsNone() {
        CHECKS.says("Promise 12", "NONE when no job holds that number.");
        for (Sample sample : Sample.values()) {
            SlotMarket x = sample.make();
            for (int id : sample.absentNumbers()) {
                CHECKS.due(sample + ": price(" + id + ")", x.price(id), NONE);
            }
        }
        SlotMarket taken = new SlotMarket(7, 1);
        taken.bring(0, 0, 5);
        CHECKS.due("there: price(0)", taken.price(0), 1);
        taken.take(0);
        CHECKS.due("taken: price(0)", taken.price(0), NONE);
    }

    private static void priceChangesNothing() {
        CHECKS.says("Promise 12", "Nothing changes.");
        for (Sample sample : Sample.values()) {
            for (int id : Edges.everyNumber()) {
                Reading.dueUnchanged(CHECKS, sample, "price(" + id + ")", x -> x.price(id));
            }
        }
        SlotMarket x = new SlotMarket(7, 1);
        x.bring(0, 0, 9);
        x.bring(0, 0, 5);
        for (int round = 0; round < 3; round++) {
            CHECKS.due("asked again: price(1)", x.price(1), 10);
            CHECKS.due("after price(1): worth(1)", x.worth(1), 5);
            CHECKS.due("after price(1): chosen()", x.chosen(), 0b01);
            CHECKS.due("after price(1): total()", x.total(), 9);
        }
    }

    private static void lossIsWhatOnePlaceFewerCosts() {
        CHECKS.says("Promise 13", "By how much the total worth of the chosen set would fall if slot s had room for one job fewer;");
        SlotMarket x = new SlotMarket(7, 0);
        x.setRoom(3, 2);
        x.setRoom(4, 1);
        x.bring(3, 3, 8);
        x.bring(3, 4, 5);
        CHECKS.due("a spare place: loss(3)", x.loss(3), 0);
        CHECKS.due("a spare place: loss(4)", x.loss(4), 0);
        x.bring(4, 4, 6);
        CHECKS.due("no spare place: loss(3)", x.loss(3), 5);
        CHECKS.due("no spare place, 6 makes 5 move out: loss(4)", x.loss(4), 6);
        x.bring(4, 4, 2);
        x.setRoom(3, 3);
        CHECKS.due("one more place: loss(3)", x.loss(3), 0);
        x.take(2);
        CHECKS.due("2 stands in: loss(4)", x.loss(4), 2);
        CHECKS.due("no jobs: loss(0)", Sample.EMPTY.make().loss(0), 0);
        SlotMarket crowded = Sample.CROWDED.make();
        CHECKS.due("CROWDED, 1 is worth as much as 0 but must stay out: loss(0)", crowded.loss(0), 5);
        CHECKS.due("CROWDED: loss(1)", crowded.loss(1), 9);
        CHECKS.due("CROWDED: loss(3)", crowded.loss(3), 9);
        CHECKS.due("CROWDED: loss(11)", crowded.loss(11), 0);
    }

    private static void lossAtEveryRoom() {
        CHECKS.says("Promise 13", "if slot s had room for one job fewer;");
        for (int s = 0; s < 12; s++) {
            SlotMarket x = sevenFor(s);
            for (int n = 1; n <= 3; n++) {
                x.setRoom(s, n);
                CHECKS.due("slot " + s + ", room " + n + ": loss(" + s + ")", x.loss(s), 21 - n);
                CHECKS.due("then room(" + s + ")", x.room(s), n);
            }
        }
    }

    /** Seven jobs that can use slot s alone, worth 14, 15, .. 20: the best is the last to be brought. */
    private static SlotMarket sevenFor(int s) {
        SlotMarket x = new SlotMarket(7, 0);
        for (int worth = 14; worth <= 20; worth++) {
            x.bring(s, s, worth);
        }
        return x;
    }

    private static void lossOutsideTheSlotsIsNone() {
        CHECKS.says("Promise 13", "NONE when s is not 0 .. 11");
        for (Sample sample : Sample.values()) {
            SlotMarket x = sample.make();
            for (int s : Edges.NO_SLOTS) {
                CHECKS.due(sample + ": loss(" + s + ")", x.loss(s), NONE);
            }
        }
        SlotMarket ends = new SlotMarket(7, 1);
        ends.bring(0, 0, 3);
        ends.bring(11, 11, 4);
        CHECKS.due("the first slot: loss(0)", ends.loss(0), 3);
        CHECKS.due("the last slot: loss(11)", ends.loss(11), 4);
    }

    private static void lossWithoutRoomIsNone() {
        CHECKS.says("Promise 13", "NONE when s is not 0 .. 11 or room(s) is 0.");
        for (int s = 0; s < 12; s++) {
            SlotMarket x = new SlotMarket(7, 1);
            x.bring(0, 11, 5);
            x.setRoom(s, 0);
            CHECKS.due("room 0: loss(" + s + ")", x.loss(s), NONE);
            x.setRoom(s, 1);
            CHECKS.due("room 1: loss(" + s + ")", x.loss(s), 0);
            CHECKS.due("no jobs, room 0: loss(" + s + ")", new SlotMarket(7, 0).loss(s), NONE);
            CHECKS.due("no jobs, room 1: loss(" + s + ")", new SlotMarket(7, 1).loss(s), 0);
        }
    }

    private static void lossChangesNothing() {
        CHECKS.says("Promise 13", "Nothing changes.");
        for (Sample sample : Sample.values()) {
            for (int s : Edges.everySlot()) {
                Reading.dueUnchanged(CHECKS, sample, "loss(" + s + ")", x -> x.loss(s));
            }
        }
        SlotMarket x = sevenFor(6);
        x.setRoom(6, 1);
        for (int round = 0; round < 3; round++) {
            CHECKS.due("asked again: loss(6)", x.loss(6), 20);
            CHECKS.due("after loss(6): room(6)", x.room(6), 1);
            CHECKS.due("after loss(6): total()", x.total(), 20);
        }
    }

    private static void gainIsWhatOnePlaceMoreBrings() {
        CHECKS.says("Promise 14", "By how much the total worth of the chosen set would rise if slot s had room for one job more");
        SlotMarket x = new SlotMarket(7, 0);
        x.bring(5, 6, 4);
        x.bring(6, 7, 9);
        CHECKS.due("none has room: gain(5)", x.gain(5), 4);
        CHECKS.due("none has room: gain(6)", x.gain(6), 9);
        CHECKS.due("none has room: gain(7)", x.gain(7), 9);
        CHECKS.due("none has room: gain(8)", x.gain(8), 0);
        x.setRoom(6, 1);
        CHECKS.due("6 has room: gain(5)", x.gain(5), 4);
        CHECKS.due("6 has room: gain(6)", x.gain(6), 4);
        CHECKS.due("6 has room, 1 makes way: gain(7)", x.gain(7), 4);
        x.setRoom(7, 1);
        CHECKS.due("both chosen: gain(5)", x.gain(5), 0);
        CHECKS.due("no jobs: gain(0)", Sample.EMPTY.make().gain(0), 0);
        SlotMarket crowded = Sample.CROWDED.make();
        CHECKS.due("CROWDED: gain(0)", crowded.gain(0), 5);
        CHECKS.due("CROWDED: gain(2)", crowded.gain(2), 5);
        CHECKS.due("CROWDED: gain(11)", crowded.gain(11), 0);
    }

    private static void gainAtEveryRoom() {
        CHECKS.says("Promise 14", "if slot s had room for one job more");
        for (int s = 0; s < 12; s++) {
            SlotMarket x = sevenFor(s);
            for (int n = 0; n <= 3; n++) {
                x.setRoom(s, n);
                CHECKS.due("slot " + s + ", room " + n + ": gain(" + s + ")", x.gain(s), 20 - n);
                CHECKS.due("then room(" + s + ")", x.room(s), n);
            }
        }
    }

    private static void gainOfAFourthPlace() {
        CHECKS.says("Promise 14", "(four included)");
        for (int s = 0; s < 12; s++) {
            SlotMarket x = sevenFor(s);
            x.setRoom(s, 3);
            CHECKS.due("three places: gain(" + s + ")", x.gain(s), 17);
            CHECKS.due("still three: room(" + s + ")", x.room(s), 3);
            CHECKS.due("still three: total()", x.total(), 57);
            CHECKS.due("still three: fits(1111000)", x.fits(0b1111000), false);
            CHECKS.due("still three: setRoom(" + s + ", 4)", x.setRoom(s, 4), false);
        }
        SlotMarket enough = new SlotMarket(3, 3);
        for (int i = 0; i < 3; i++) {
            enough.bring(2, 2, 20);
        }
        CHECKS.due("three jobs have three places: gain(2)", enough.gain(2), 0);
    }

    private static void gainOutsideTheSlotsIsNone() {
        CHECKS.says("Promise 14", "NONE when s is not 0 .. 11.");
        for (Sample sample : Sample.values()) {
            SlotMarket x = sample.make();
            for (int s : Edges.NO_SLOTS) {
                CHECKS.due(sample + ": gain(" + s + ")", x.gain(s), NONE);
            }
        }
        SlotMarket ends = new SlotMarket(7, 0);
        ends.bring(0, 0, 3);
        ends.bring(11, 11, 4);
        CHECKS.due("the first slot: gain(0)", ends.gain(0), 3);
        CHECKS.due("the last slot: gain(11)", ends.gain(11), 4);
        CHECKS.due("no room is not refused: gain(5)", ends.gain(5), 0);
    }

    private static void gainChangesNothing() {
        CHECKS.says("Promise 14", "Nothing changes.");
        for (Sample sample : Sample.values()) {
            for (int s : Edges.everySlot()) {
                Reading.dueUnchanged(CHECKS, sample, "gain(" + s + ")", x -> x.gain(s));
            }
        }
        SlotMarket x = sevenFor(6);
        x.setRoom(6, 3);
        for (int round = 0; round < 3; round++) {
            CHECKS.due("asked again: gain(6)", x.gain(6), 17);
            CHECKS.due("after gain(6): room(6)", x.room(6), 3);
            CHECKS.due("after gain(6): total()", x.total(), 57);
        }
    }
}

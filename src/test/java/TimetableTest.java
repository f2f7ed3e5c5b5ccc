/** Promise 15: the slots of the first timetable. */
public final class TimetableTest {
    private static final Checks CHECKS = new Checks();

    public static void main(String[] args) {
        lowerNumberHasTheLeastSlot();
        lowerNumberMakesWayOnlyWhereItMust();
        closedSlotsArePassedOver();
        slotsFillUpToTheirRoom();
        onlyChosenJobsHaveSlots();
        askingTwiceAnswersTheSame();
        CHECKS.finish();
    }

    private static void lowerNumberHasTheLeastSlot() {
        SlotMarket x = new SlotMarket(7, 1);
        x.bring(2, 9, 1);
        x.bring(2, 4, 20);
        x.bring(0, 11, 5);
        dueSlots("least slots", x, 2, 3, 0);
    }

    private static void lowerNumberMakesWayOnlyWhereItMust() {
        SlotMarket x = new SlotMarket(7, 1);
        x.bring(2, 9, 1);
        x.bring(2, 2, 1);
        dueSlots("one step", x, 3, 2);
        x.bring(3, 3, 1);
        x.bring(4, 5, 1);
        dueSlots("two steps", x, 4, 2, 3, 5);
        x.bring(5, 5, 1);
        dueSlots("three steps", x, 6, 2, 3, 4, 5);
    }

    private static void closedSlotsArePassedOver() {
        SlotMarket x = new SlotMarket(7, 0);
        x.setRoom(4, 1);
        x.setRoom(11, 1);
        x.bring(0, 11, 3);
        x.bring(5, 11, 3);
        dueSlots("closed", x, 4, 11);
        x.setRoom(4, 0);
        dueSlots("closed more", x, 11, SlotMarket.NONE);
    }

    private static void slotsFillUpToTheirRoom() {
        SlotMarket x = new SlotMarket(7, 3);
        for (int i = 0; i < 7; i++) {
            x.bring(1, 11, 7);
        }
        dueSlots("filled", x, 1, 1, 1, 2, 2, 2, 3);
    }

    private static void onlyChosenJobsHaveSlots() {
        SlotMarket x = new SlotMarket(7, 1);
        x.bring(0, 0, 5);
        x.bring(0, 0, 6);
        x.bring(1, 1, 6);
        x.take(2);
        dueSlots("not chosen", x, SlotMarket.NONE, 0, SlotMarket.NONE);
        int[] absent = {3, 6, 7, 31, 32, 33, -1, -31, Integer.MIN_VALUE, Integer.MAX_VALUE};
        for (int id : absent) {
            CHECKS.due("slotOf(" + id + ")", x.slotOf(id), SlotMarket.NONE);
        }
    }

    private static void askingTwiceAnswersTheSame() {
        SlotMarket x = new SlotMarket(7, 1);
        x.bring(6, 8, 2);
        x.bring(6, 6, 2);
        x.bring(7, 8, 2);
        for (int round = 0; round < 3; round++) {
            dueSlots("again", x, 7, 6, 8);
            CHECKS.due("again: room(6)", x.room(6), 1);
            CHECKS.due("again: chosen()", x.chosen(), 0b111);
        }
    }

    private static void dueSlots(String run, SlotMarket x, int... slots) {
        for (int id = 0; id < slots.length; id++) {
            CHECKS.due(run + ": slotOf(" + id + ")", x.slotOf(id), slots[id]);
        }
    }
}

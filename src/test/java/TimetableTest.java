/** The sentences of promise 15 (slotOf). */
public final class TimetableTest {
    private static final Checks CHECKS = new Checks();
    private static final int NONE = SlotMarket.NONE;

    public static void main(String[] args) {
        slotLiesInTheWindow();
        slotsStayWithinTheRooms();
        everyChosenJobHasASlot();
        lowerNumberHasTheLeastSlot();
        lowerNumberMakesWayOnlyWhereItMust();
        nextNumberGoesByTheSlotsBefore();
        jobThatIsNotChosenHasNone();
        numberOfNoJobHasNone();
        CHECKS.finish();
    }

    private static void slotLiesInTheWindow() {
        CHECKS.says("Promise 15", "a slot of its window");
        for (int first = 0; first < 12; first++) {
            for (int last = first; last < 12; last++) {
                SlotMarket x = new SlotMarket(1, 1);
                x.bring(first, last, 1);
                String job = "window " + first + " .. " + last;
                CHECKS.due(job + ": slotOf(0)", x.slotOf(0), first);
                for (int s = first; s < last; s++) {
                    x.setRoom(s, 0);
                }
                CHECKS.due(job + ", the last alone has room: slotOf(0)", x.slotOf(0), last);
                x.setRoom(last, 0);
                CHECKS.due(job + ", none has room: slotOf(0)", x.slotOf(0), NONE);
            }
        }
    }

    private static void slotsStayWithinTheRooms() {
        CHECKS.says("Promise 15", "within the rooms");
        SlotMarket x = new SlotMarket(7, 3);
        for (int i = 0; i < 7; i++) {
            x.bring(1, 11, 7);
        }
        dueSlots("room for three", x, 1, 1, 1, 2, 2, 2, 3);
        x.setRoom(1, 0);
        x.setRoom(2, 1);
        x.setRoom(3, 2);
        dueSlots("room for none, one, two", x, 2, 3, 3, 4, 4, 4, 5);
        SlotMarket closed = new SlotMarket(7, 0);
        closed.setRoom(4, 1);
        closed.setRoom(11, 1);
        closed.bring(0, 11, 3);
        closed.bring(5, 11, 3);
        dueSlots("two open slots", closed, 4, 11);
        closed.setRoom(4, 0);
        dueSlots("one open slot", closed, 11, NONE);
    }

    private static void everyChosenJobHasASlot() {
        CHECKS.says("Promise 15", "The slot of job id in the FIRST TIMETABLE: of all ways to give every job of the chosen set a slot");
        dueSlots("CROWDED", Sample.CROWDED.make(), 0, NONE, 1, 3, NONE, 3, 11);
        dueSlots("GAPPY", Sample.GAPPY.make(), 8, NONE, 9, NONE, NONE, NONE, NONE);
        // A job that is not chosen takes no place from the chosen ones.
        SlotMarket x = new SlotMarket(7, 1);
        x.bring(0, 0, 5);
        x.bring(0, 1, 6);
        x.bring(1, 1, 7);
        dueSlots("0 stays out", x, NONE, 0, 1);
    }

    private static void lowerNumberHasTheLeastSlot() {
        CHECKS.says("Promise 15", "the chosen job with the least number has the least slot it has in any way;");
        SlotMarket x = new SlotMarket(7, 1);
        x.bring(2, 9, 1);
        x.bring(2, 4, 20);
        x.bring(0, 11, 5);
        dueSlots("the number leads, not the worth or the window", x, 2, 3, 0);
        SlotMarket ends = new SlotMarket(7, 1);
        ends.bring(11, 11, 1);
        ends.bring(0, 0, 1);
        ends.bring(0, 11, 1);
        dueSlots("the first slot and the last", ends, 11, 0, 1);
    }

    private static void lowerNumberMakesWayOnlyWhereItMust() {
        CHECKS.says("Promise 15", "the one whose slots, read in the order of the job numbers, are least in the dictionary order");
        SlotMarket x = new SlotMarket(7, 1);
        x.bring(2, 9, 1);
        x.bring(2, 2, 1);
        dueSlots("one step", x, 3, 2);
        x.bring(3, 3, 1);
        x.bring(4, 5, 1);
        dueSlots("two steps", x, 4, 2, 3, 5);
        x.bring(5, 5, 1);
        dueSlots("three steps", x, 6, 2, 3, 4, 5);
        x.setRoom(2, 2);
        dueSlots("room for two in slot 2", x, 2, 2, 3, 4, 5);
    }

    private static void nextNumberGoesByTheSlotsBefore() {
        CHECKS.says("Promise 15", "then the next number, among the ways with that slot; and so on");
        SlotMarket x = new SlotMarket(7, 1);
        x.bring(6, 8, 2);
        x.bring(6, 8, 2);
        x.bring(6, 8, 2);
        dueSlots("three alike", x, 6, 7, 8);
        x.take(0);
        dueSlots("0 gone", x, NONE, 6, 7);
        x.bring(7, 7, 2);
        dueSlots("0 needs slot 7", x, 7, 6, 8);
        SlotMarket y = new SlotMarket(7, 1);
        y.bring(0, 3, 1);
        y.bring(0, 3, 1);
        y.bring(1, 1, 1);
        y.bring(0, 3, 1);
        dueSlots("1 must leave slot 1 to 2", y, 0, 2, 1, 3);
        SlotMarket z = new SlotMarket(7, 1);
        z.bring(1, 2, 1);
        z.bring(0, 2, 1);
        z.bring(0, 1, 1);
        dueSlots("1 would have slot 0, had 0 not come before", z, 1, 2, 0);
    }

    private static void jobThatIsNotChosenHasNone() {
        CHECKS.says("Promise 15", "NONE when job id is not in the chosen set");
        SlotMarket x = new SlotMarket(7, 1);
        for (int i = 0; i < 7; i++) {
            x.bring(0, 0, 5);
        }
        dueSlots("one of seven", x, 0, NONE, NONE, NONE, NONE, NONE, NONE);
        x.revalue(6, 6);
        dueSlots("another of seven", x, NONE, NONE, NONE, NONE, NONE, NONE, 0);
        x.setRoom(0, 0);
        dueSlots("none of seven", x, NONE, NONE, NONE, NONE, NONE, NONE, NONE);
        dueSlots("ROOMLESS", Sample.ROOMLESS.make(), NONE);
    }

    private static void numberOfNoJobHasNone() {
        CHECKS.says("Promise 15", "NONE when job id is not in the chosen set, or no job holds that number.");
        for (Sample sample : Sample.values()) {
            SlotMarket x = sample.make();
            for (int id : sample.absentNumbers()) {
                CHECKS.due(sample + ": slotOf(" + id + ")", x.slotOf(id), NONE);
            }
        }
        SlotMarket taken = new SlotMarket(7, 1);
        taken.bring(3, 3, 5);
        CHECKS.due("there: slotOf(0)", taken.slotOf(0), 3);
        taken.take(0);
        CHECKS.due("taken: slotOf(0)", taken.slotOf(0), NONE);
    }

    private static void dueSlots(String run, SlotMarket x, int... slots) {
        for (int id = 0; id < slots.length; id++) {
            CHECKS.due(run + ": slotOf(" + id + ")", x.slotOf(id), slots[id]);
        }
    }
}

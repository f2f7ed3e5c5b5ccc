/** The sentences of promises 3 (take), 4 (setRoom) and 5 (revalue). */
public final class ChangeTest {
    private static final Checks CHECKS = new Checks();
    private static final int LEAST_INT = Edges.LEAST_INT;
    private static final int MOST_INT = Edges.MOST_INT;
    private static final int NONE = SlotMarket.NONE;

    public static void main(String[] args) {
        takeTakesOneJob();
        takeOfEveryNumber();
        takeOfNoJobChangesNothing();
        takeTwiceChangesNothing();
        setRoomChangesOneSlot();
        setRoomOutsideTheSlotsChangesNothing();
        setRoomOutsideTheRoomsChangesNothing();
        setRoomWithBothWrongChangesNothing();
        revalueChangesOneWorth();
        revalueOfNoJobChangesNothing();
        revalueOutsideTheWorthsChangesNothing();
        revalueWithBothWrongChangesNothing();
        CHECKS.finish();
    }

    private static void takeTakesOneJob() {
        CHECKS.says("Promise 3", "Takes job id away and answers true;");
        SlotMarket x = Sample.CROWDED.make();
        CHECKS.due("take(3)", x.take(3), true);
        CHECKS.due("take(3): jobs()", x.jobs(), 0b1110111);
        CHECKS.due("take(3): worth(3)", x.worth(3), NONE);
        CHECKS.due("take(3): price(3)", x.price(3), NONE);
        CHECKS.due("take(3): slotOf(3)", x.slotOf(3), NONE);
        CHECKS.due("take(3): revalue(3, 5)", x.revalue(3, 5), false);
        CHECKS.due("take(3): fits(0001000)", x.fits(0b0001000), false);
        CHECKS.due("take(3): chosen()", x.chosen(), 0b1100111);
        CHECKS.due("take(3): total()", x.total(), 40);
        int[] worths = {5, 5, 9, NONE, 1, 9, 12};
        for (int id = 0; id < 7; id++) {
            CHECKS.due("take(3): worth(" + id + ")", x.worth(id), worths[id]);
        }
    }

    private static void takeOfEveryNumber() {
        CHECKS.says("Promise 3", "answers true; false, changing nothing, when no job holds that number.");
        for (int capacity = 1; capacity <= 7; capacity++) {
            SlotMarket x = new SlotMarket(capacity, 1);
            for (int id = 0; id < capacity; id++) {
                x.bring(id, id, 1 + id);
            }
            CHECKS.due("capacity " + capacity + ": take(-1)", x.take(-1), false);
            CHECKS.due("capacity " + capacity + ": take(" + capacity + ")", x.take(capacity), false);
            int held = (1 << capacity) - 1;
            for (int id = 0; id < capacity; id++) {
                CHECKS.due("capacity " + capacity + ": take(" + id + ")", x.take(id), true);
                held &= ~(1 << id);
                CHECKS.due("then jobs()", x.jobs(), held);
                CHECKS.due("then take(" + id + ") again", x.take(id), false);
                CHECKS.due("then jobs() again", x.jobs(), held);
            }
        }
    }

    private static void takeOfNoJobChangesNothing() {
        CHECKS.says("Promise 3", "false, changing nothing, when no job holds that number.");
        for (Sample sample : Sample.values()) {
            for (int id : sample.absentNumbers()) {
                Reading.dueUnchanged(CHECKS, sample, "take(" + id + ")", x -> x.take(id) ? 1 : 0, 0);
            }
        }
    }

    private static void takeTwiceChangesNothing() {
        CHECKS.says("Promise 3", "changing nothing, when no job holds that number.");
        for (int id = 0; id < 7; id++) {
            SlotMarket twice = Sample.CROWDED.make();
            SlotMarket once = Sample.CROWDED.make();
            CHECKS.due("take(" + id + ")", twice.take(id), true);
            CHECKS.due("take(" + id + ") again", twice.take(id), false);
            once.take(id);
            Reading.dueSame(CHECKS, "take(" + id + ") twice", twice, once);
        }
    }

    private static void setRoomChangesOneSlot() {
        CHECKS.says("Promise 4", "Gives slot s room for n jobs and answers true;");
        for (int s = 0; s < 12; s++) {
            SlotMarket x = new SlotMarket(4, 1);
            for (int i = 0; i < 4; i++) {
                x.bring(s, s, 1);
            }
            for (int n = 3; n >= 0; n--) {
                String call = "setRoom(" + s + ", " + n + ")";
                CHECKS.due(call, x.setRoom(s, n), true);
                CHECKS.due(call + ", four jobs for the slot: total()", x.total(), n);
                for (int other = 0; other < 12; other++) {
                    CHECKS.due(call + ": room(" + other + ")", x.room(other), other == s ? n : 1);
                }
            }
            CHECKS.due("setRoom(" + s + ", 0) as it is", x.setRoom(s, 0), true);
            CHECKS.due("the jobs stay: jobs()", x.jobs(), 0b1111);
        }
    }

    private static void setRoomOutsideTheSlotsChangesNothing() {
        CHECKS.says("Promise 4", "false, changing nothing, unless 0 <= s <= 11 and 0 <= n <= 3.");
        for (Sample sample : Sample.values()) {
            for (int s : Edges.NO_SLOTS) {
                dueRefusedRoom(sample, s, 0);
                dueRefusedRoom(sample, s, 3);
            }
        }
        CHECKS.due("the first slot that is: setRoom(0, 1)", new SlotMarket(7, 0).setRoom(0, 1), true);
        CHECKS.due("the last slot that is: setRoom(11, 1)", new SlotMarket(7, 0).setRoom(11, 1), true);
    }

    private static void setRoomOutsideTheRoomsChangesNothing() {
        CHECKS.says("Promise 4", "changing nothing, unless 0 <= s <= 11 and 0 <= n <= 3.");
        int[] slots = {0, 1, 3, 8, 11};
        for (Sample sample : Sample.values()) {
            for (int s : slots) {
                for (int n : Edges.NO_ROOMS) {
                    dueRefusedRoom(sample, s, n);
                }
            }
        }
        CHECKS.due("the least room: setRoom(5, 0)", new SlotMarket(7, 2).setRoom(5, 0), true);
        CHECKS.due("the greatest room: setRoom(5, 3)", new SlotMarket(7, 2).setRoom(5, 3), true);
    }

    private static void setRoomWithBothWrongChangesNothing() {
        CHECKS.says("Promise 4", "unless 0 <= s <= 11 and 0 <= n <= 3.");
        for (Sample sample : Sample.values()) {
            dueRefusedRoom(sample, -1, -1);
            dueRefusedRoom(sample, -1, 4);
            dueRefusedRoom(sample, 12, -1);
            dueRefusedRoom(sample, 12, 4);
            dueRefusedRoom(sample, LEAST_INT, LEAST_INT);
            dueRefusedRoom(sample, LEAST_INT, MOST_INT);
            dueRefusedRoom(sample, MOST_INT, LEAST_INT);
            dueRefusedRoom(sample, MOST_INT, MOST_INT);
        }
    }

    private static void dueRefusedRoom(Sample sample, int s, int n) {
        String call = "setRoom(" + s + ", " + n + ")";
        Reading.dueUnchanged(CHECKS, sample, call, x -> x.setRoom(s, n) ? 1 : 0, 0);
    }

    private static void revalueChangesOneWorth() {
        CHECKS.says("Promise 5", "Gives job id another worth and answers true;");
        for (int id = 0; id < 7; id++) {
            SlotMarket x = new SlotMarket(7, 1);
            for (int i = 0; i < 7; i++) {
                x.bring(i, i, 10 + i);
            }
            for (int worth = 1; worth <= 20; worth++) {
                String call = "revalue(" + id + ", " + worth + ")";
                CHECKS.due(call, x.revalue(id, worth), true);
                CHECKS.due(call + ": total()", x.total(), 91 - (10 + id) + worth);
                for (int other = 0; other < 7; other++) {
                    CHECKS.due(call + ": worth(" + other + ")", x.worth(other), other == id ? worth : 10 + other);
                }
            }
            CHECKS.due("revalue(" + id + ", 20) as it is", x.revalue(id, 20), true);
            CHECKS.due("the window stays: slotOf(" + id + ")", x.slotOf(id), id);
            x.revalue(id, 10 + id);
            SlotMarket untouched = new SlotMarket(7, 1);
            for (int i = 0; i < 7; i++) {
                untouched.bring(i, i, 10 + i);
            }
            Reading.dueSame(CHECKS, "revalue(" + id + ") to and fro", x, untouched);
        }
    }

    private static void revalueOfNoJobChangesNothing() {
        CHECKS.says("Promise 5", "false, changing nothing, when no job holds that number");
        for (Sample sample : Sample.values()) {
            for (int id : sample.absentNumbers()) {
                dueRefusedWorth(sample, id, 1);
                dueRefusedWorth(sample, id, 20);
            }
        }
    }

    private static void revalueOutsideTheWorthsChangesNothing() {
        CHECKS.says("Promise 5", "false, changing nothing, when no job holds that number or worth is not 1 .. 20.");
        for (Sample sample : Sample.values()) {
            for (int id = 0; id < 7; id++) {
                for (int worth : Edges.NO_WORTHS) {
                    dueRefusedWorth(sample, id, worth);
                }
            }
        }
        CHECKS.due("the least worth: revalue(4, 1)", Sample.GAPPY.make().revalue(4, 1), true);
        CHECKS.due("the greatest worth: revalue(4, 20)", Sample.GAPPY.make().revalue(4, 20), true);
    }

    private static void revalueWithBothWrongChangesNothing() {
        CHECKS.says("Promise 5", "no job holds that number or worth is not 1 .. 20.");
        for (Sample sample : Sample.values()) {
            dueRefusedWorth(sample, -1, 0);
            dueRefusedWorth(sample, -1, 21);
            dueRefusedWorth(sample, 7, 0);
            dueRefusedWorth(sample, 7, 21);
            dueRefusedWorth(sample, LEAST_INT, LEAST_INT);
            dueRefusedWorth(sample, LEAST_INT, MOST_INT);
            dueRefusedWorth(sample, MOST_INT, LEAST_INT);
            dueRefusedWorth(sample, MOST_INT, MOST_INT);
        }
    }

    private static void dueRefusedWorth(Sample sample, int id, int worth) {
        String call = "revalue(" + id + ", " + worth + ")";
        Reading.dueUnchanged(CHECKS, sample, call, x -> x.revalue(id, worth) ? 1 : 0, 0);
    }
}

/** The sentences of promises 6 (room), 7 (jobs) and 8 (worth). */
public final class StateTest {
    private static final Checks CHECKS = new Checks();
    private static final int NONE = SlotMarket.NONE;

    public static void main(String[] args) {
        roomOfEverySlot();
        roomOutsideTheSlotsIsNone();
        bitsTellTheNumbers();
        worthOfEveryJob();
        worthOfNoJobIsNone();
        CHECKS.finish();
    }

    private static void roomOfEverySlot() {
        CHECKS.says("Promise 6", "The room of slot s;");
        SlotMarket x = new SlotMarket(7, 3);
        x.bring(0, 11, 20);
        for (int s = 0; s < 12; s++) {
            x.setRoom(s, s % 4);
        }
        for (int s = 0; s < 12; s++) {
            CHECKS.due("room(" + s + ")", x.room(s), s % 4);
        }
        SlotMarket full = new SlotMarket(7, 1);
        full.bring(5, 5, 1);
        CHECKS.due("a chosen job leaves it: room(5)", full.room(5), 1);
    }

    private static void roomOutsideTheSlotsIsNone() {
        CHECKS.says("Promise 6", "NONE when s is not 0 .. 11.");
        for (Sample sample : Sample.values()) {
            SlotMarket x = sample.make();
            for (int s : Edges.NO_SLOTS) {
                CHECKS.due(sample + ": room(" + s + ")", x.room(s), NONE);
            }
        }
        CHECKS.due("room 3: room(0)", new SlotMarket(7, 3).room(0), 3);
        CHECKS.due("room 3: room(11)", new SlotMarket(7, 3).room(11), 3);
        CHECKS.due("room 0: room(0)", new SlotMarket(7, 0).room(0), 0);
        CHECKS.due("room 0: room(11)", new SlotMarket(7, 0).room(11), 0);
    }

    private static void bitsTellTheNumbers() {
        CHECKS.says("Promise 7", "The numbers that jobs hold: bit i is set when a job holds i.");
        for (int held = 0; held < 128; held++) {
            SlotMarket x = new SlotMarket(7, held % 4);
            for (int i = 0; i < 7; i++) {
                x.bring(0, 0, 1);
            }
            for (int id = 0; id < 7; id++) {
                if ((held >> id & 1) == 0) {
                    x.take(id);
                }
            }
            CHECKS.due("held " + Integer.toBinaryString(held) + ": jobs()", x.jobs(), held);
        }
        for (Sample sample : Sample.values()) {
            CHECKS.due(sample + ", chosen or not: jobs()", sample.make().jobs(), sample.held);
        }
    }

    private static void worthOfEveryJob() {
        CHECKS.says("Promise 8", "The worth of job id;");
        int[] worths = {20, 1, 19, 2, 20, 1, 7};
        SlotMarket x = new SlotMarket(7, 0);
        for (int worth : worths) {
            x.bring(3, 3, worth);
        }
        for (int id = 0; id < 7; id++) {
            CHECKS.due("worth(" + id + ")", x.worth(id), worths[id]);
        }
        x.revalue(6, 20);
        CHECKS.due("revalued: worth(6)", x.worth(6), 20);
        x.take(0);
        x.bring(3, 3, 1);
        CHECKS.due("another job under that number: worth(0)", x.worth(0), 1);
    }

    private static void worthOfNoJobIsNone() {
        CHECKS.says("Promise 8", "NONE when no job holds that number.");
        for (Sample sample : Sample.values()) {
            SlotMarket x = sample.make();
            for (int id : sample.absentNumbers()) {
                CHECKS.due(sample + ": worth(" + id + ")", x.worth(id), NONE);
            }
        }
        SlotMarket taken = new SlotMarket(7, 1);
        taken.bring(0, 0, 5);
        taken.take(0);
        CHECKS.due("taken: worth(0)", taken.worth(0), NONE);
    }
}

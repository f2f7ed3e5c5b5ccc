import static java.lang.Math.max;
import static java.lang.Math.min;

/** The sentences of promises 1 (a new object) and 2 (bring). */
public final class BringTest {
    private static final Checks CHECKS = new Checks();
    private static final int LEAST_INT = Edges.LEAST_INT;
    private static final int MOST_INT = Edges.MOST_INT;
    private static final int BAD = SlotMarket.BAD;
    private static final int FULL = SlotMarket.FULL;
    private static final int NONE = SlotMarket.NONE;

    public static void main(String[] args) {
        newObjectHasNoJobs();
        capacityIsClamped();
        roomIsClamped();
        everySlotHasTheFirstRoom();
        objectsAreSeparate();
        firstAndLastAtTheirEdges();
        worthAtItsEdges();
        badAtEveryMixOfEdges();
        fullAtCapacity();
        badGoesBeforeFull();
        leastFreeNumberIsAnswered();
        jobIsThereAsBrought();
        badChangesNothing();
        fullChangesNothing();
        CHECKS.finish();
    }

    private static void newObjectHasNoJobs() {
        CHECKS.says("Promise 1", "No jobs.");
        int[] capacities = {LEAST_INT, 0, 1, 7, 8, MOST_INT};
        for (int capacity : capacities) {
            SlotMarket x = new SlotMarket(capacity, 2);
            String run = "new(" + capacity + ", 2): ";
            CHECKS.due(run + "jobs()", x.jobs(), 0);
            CHECKS.due(run + "chosen()", x.chosen(), 0);
            CHECKS.due(run + "total()", x.total(), 0);
            for (int id = -1; id <= 8; id++) {
                CHECKS.due(run + "worth(" + id + ")", x.worth(id), NONE);
                CHECKS.due(run + "price(" + id + ")", x.price(id), NONE);
                CHECKS.due(run + "slotOf(" + id + ")", x.slotOf(id), NONE);
                CHECKS.due(run + "revalue(" + id + ", 5)", x.revalue(id, 5), false);
                CHECKS.due(run + "take(" + id + ")", x.take(id), false);
            }
        }
    }

    private static void capacityIsClamped() {
        CHECKS.says("Promise 1", "capacity: the greatest number of jobs, clamped to 1 .. 7.");
        int[] given = {
            LEAST_INT, LEAST_INT + 5, -65531, -7, -1, 0, 1, 2, 3, 4, 5, 6, 7, 8, 9, 32, 35, 256, 259, 65538, MOST_INT,
        };
        for (int capacity : given) {
            int due = max(1, min(7, capacity));
            SlotMarket x = new SlotMarket(capacity, 1);
            for (int id = 0; id < due; id++) {
                CHECKS.due("new(" + capacity + ", 1): bring number " + id, x.bring(0, 11, 1), id);
            }
            CHECKS.due("new(" + capacity + ", 1): one more", x.bring(0, 11, 1), FULL);
            String run = "new(" + capacity + ", 1) as new(" + due + ", 1)";
            Reading.dueSame(CHECKS, run, new SlotMarket(capacity, 1), new SlotMarket(due, 1));
        }
    }

    private static void roomIsClamped() {
        CHECKS.says("Promise 1", "room: the room of every slot at first, clamped to 0 .. 3.");
        int[] given = {
            LEAST_INT, LEAST_INT + 2, -65534, -3, -1, 0, 1, 2, 3, 4, 5, 7, 32, 33, 256, 258, 65537, MOST_INT,
        };
        for (int room : given) {
            int due = max(0, min(3, room));
            SlotMarket x = new SlotMarket(7, room);
            for (int i = 0; i < 7; i++) {
                x.bring(6, 6, 1);
            }
            CHECKS.due("new(7, " + room + "): room(6)", x.room(6), due);
            CHECKS.due("new(7, " + room + "), seven jobs for slot 6: total()", x.total(), due);
            String run = "new(7, " + room + ") as new(7, " + due + ")";
            Reading.dueSame(CHECKS, run, new SlotMarket(7, room), new SlotMarket(7, due));
        }
    }

    private static void everySlotHasTheFirstRoom() {
        CHECKS.says("Promise 1", "the room of every slot at first");
        for (int room = 0; room <= 3; room++) {
            SlotMarket x = new SlotMarket(7, room);
            for (int s = 0; s < 12; s++) {
                CHECKS.due("new(7, " + room + "): room(" + s + ")", x.room(s), room);
            }
        }
    }

    private static void objectsAreSeparate() {
        CHECKS.says("Promise 1", "A new object");
        SlotMarket x = new SlotMarket(7, 1);
        SlotMarket y = new SlotMarket(1, 3);
        x.bring(3, 5, 5);
        y.bring(8, 9, 17);
        y.setRoom(3, 0);
        y.setRoom(8, 2);
        dueOneJob("the first object", x, 5, 3, 5);
        dueOneJob("the second object", y, 17, 8, 9);
        CHECKS.due("the first object: room(8)", x.room(8), 1);
        CHECKS.due("the first object has capacity left: bring", x.bring(0, 0, 1), 1);
        CHECKS.due("the second object has not: bring", y.bring(0, 0, 1), FULL);
        CHECKS.due("a third object: jobs()", new SlotMarket(7, 3).jobs(), 0);
        CHECKS.due("the first object still: jobs()", x.jobs(), 0b11);
        CHECKS.due("the second object still: jobs()", y.jobs(), 0b1);
    }

    private static void dueOneJob(String run, SlotMarket x, int worth, int first, int last) {
        CHECKS.due(run + ": jobs()", x.jobs(), 1);
        CHECKS.due(run + ": worth(0)", x.worth(0), worth);
        CHECKS.due(run + ": slotOf(0)", x.slotOf(0), first);
        for (int s = first; s < last; s++) {
            x.setRoom(s, 0);
        }
        CHECKS.due(run + ", the last slot alone has room: slotOf(0)", x.slotOf(0), last);
        x.setRoom(last, 0);
        CHECKS.due(run + ", no room: slotOf(0)", x.slotOf(0), NONE);
    }

    private static void firstAndLastAtTheirEdges() {
        CHECKS.says("Promise 2", "BAD unless 0 <= first <= last <= 11");
        dueBring(-1, 0, 1, BAD);
        dueBring(-1, 11, 1, BAD);
        dueBring(-1, -1, 1, BAD);
        dueBring(0, 0, 1, 0);
        dueBring(0, 11, 1, 0);
        dueBring(0, 12, 1, BAD);
        dueBring(11, 12, 1, BAD);
        dueBring(12, 12, 1, BAD);
        dueBring(11, 11, 1, 0);
        for (int s = 0; s < 12; s++) {
            dueBring(s, s - 1, 1, BAD);
            dueBring(s, s, 1, 0);
        }
        dueBring(11, 0, 1, BAD);
        dueBring(LEAST_INT, 0, 1, BAD);
        dueBring(LEAST_INT, LEAST_INT, 1, BAD);
        dueBring(LEAST_INT, MOST_INT, 1, BAD);
        dueBring(0, LEAST_INT, 1, BAD);
        dueBring(0, MOST_INT, 1, BAD);
        dueBring(MOST_INT, MOST_INT, 1, BAD);
        dueBring(MOST_INT, LEAST_INT, 1, BAD);
        dueBring(MOST_INT, 11, 1, BAD);
        for (int s : Edges.NO_SLOTS) {
            dueBring(s, 11, 1, BAD);
            dueBring(0, s, 1, BAD);
            dueBring(s, s, 1, BAD);
        }
    }

    private static void worthAtItsEdges() {
        CHECKS.says("Promise 2", "BAD unless 0 <= first <= last <= 11 and 1 <= worth <= 20;");
        dueBring(0, 11, 0, BAD);
        dueBring(0, 11, 1, 0);
        dueBring(0, 11, 20, 0);
        dueBring(0, 11, 21, BAD);
        dueBring(0, 11, LEAST_INT, BAD);
        dueBring(0, 11, MOST_INT, BAD);
        for (int worth : Edges.NO_WORTHS) {
            dueBring(4, 4, worth, BAD);
        }
    }

    private static void badAtEveryMixOfEdges() {
        CHECKS.says("Promise 2", "unless 0 <= first <= last <= 11 and 1 <= worth <= 20;");
        int[] slots = {LEAST_INT, -1, 0, 1, 5, 10, 11, 12, MOST_INT};
        int[] worths = {LEAST_INT, -1, 0, 1, 20, 21, MOST_INT};
        for (int first : slots) {
            for (int last : slots) {
                for (int worth : worths) {
                    boolean good = 0 <= first && first <= last && last <= 11 && 1 <= worth && worth <= 20;
                    dueBring(first, last, worth, good ? 0 : BAD);
                }
            }
        }
    }

    private static void dueBring(int first, int last, int worth, int due) {
        SlotMarket x = new SlotMarket(7, 1);
        String call = "bring(" + first + ", " + last + ", " + worth + ")";
        CHECKS.due(call, x.bring(first, last, worth), due);
        CHECKS.due(call + ": jobs()", x.jobs(), due == BAD ? 0 : 1);
    }

    private static void fullAtCapacity() {
        CHECKS.says("Promise 2", "FULL when capacity jobs are there;");
        for (int capacity = 1; capacity <= 7; capacity++) {
            SlotMarket x = new SlotMarket(capacity, 0);
            for (int id = 0; id < capacity; id++) {
                CHECKS.due("capacity " + capacity + ", " + id + " there: bring", x.bring(0, 0, 1), id);
            }
            CHECKS.due("capacity " + capacity + ", all there: bring", x.bring(0, 0, 1), FULL);
            CHECKS.due("capacity " + capacity + ", all there: bring again", x.bring(11, 11, 20), FULL);
            x.take(capacity - 1);
            CHECKS.due("capacity " + capacity + ", one taken: bring", x.bring(0, 0, 1), capacity - 1);
            CHECKS.due("capacity " + capacity + ", all there anew: bring", x.bring(0, 0, 1), FULL);
        }
    }

    private static void badGoesBeforeFull() {
        CHECKS.says("Promise 2", "Answers, by the first that applies: BAD");
        int[][] bad = {
            {-1, 0, 5}, {0, 12, 5}, {1, 0, 5}, {0, 0, 0}, {0, 0, 21}, {12, -1, 0}, {LEAST_INT, MOST_INT, 5},
            {MOST_INT, LEAST_INT, 5}, {0, 0, LEAST_INT}, {0, 0, MOST_INT},
        };
        for (int[] job : bad) {
            SlotMarket x = Sample.CROWDED.make();
            CHECKS.due("full: bring" + text(job), x.bring(job[0], job[1], job[2]), BAD);
            CHECKS.due("full, then a good job", x.bring(0, 0, 5), FULL);
            SlotMarket one = Sample.ROOMLESS.make();
            CHECKS.due("full with one: bring" + text(job), one.bring(job[0], job[1], job[2]), BAD);
        }
    }

    private static void leastFreeNumberIsAnswered() {
        CHECKS.says("Promise 2", "otherwise the job is there under the least number no job holds, which is answered.");
        for (int gaps = 1; gaps < 128; gaps++) {
            SlotMarket x = new SlotMarket(7, 1);
            for (int i = 0; i < 7; i++) {
                x.bring(0, 0, 1);
            }
            // Taken from the highest down, so that the number freed last is the least only by its value.
            for (int id = 6; id >= 0; id--) {
                if ((gaps >> id & 1) == 1) {
                    x.take(id);
                }
            }
            int held = 127 & ~gaps;
            for (int left = gaps; left != 0; left &= left - 1) {
                int due = Integer.numberOfTrailingZeros(left);
                CHECKS.due("jobs " + Integer.toBinaryString(held) + ": bring", x.bring(0, 0, 1), due);
                held |= 1 << due;
                CHECKS.due("then jobs()", x.jobs(), held);
            }
            CHECKS.due("no gap left: bring", x.bring(0, 0, 1), FULL);
        }
        SlotMarket upward = new SlotMarket(7, 1);
        for (int i = 0; i < 7; i++) {
            upward.bring(0, 0, 1);
        }
        upward.take(2);
        upward.take(5);
        CHECKS.due("2 taken, then 5: bring", upward.bring(0, 0, 1), 2);
        CHECKS.due("2 taken, then 5: bring again", upward.bring(0, 0, 1), 5);
    }

    private static void jobIsThereAsBrought() {
        CHECKS.says("Promise 2", "Brings a job.");
        SlotMarket x = new SlotMarket(7, 0);
        x.bring(3, 5, 20);
        x.take(0);
        CHECKS.due("bring(8, 9, 4)", x.bring(8, 9, 4), 0);
        CHECKS.due("worth(0)", x.worth(0), 4);
        for (int s = 0; s < 12; s++) {
            x.setRoom(s, 1);
            CHECKS.due("room in " + s + " alone: fits(1)", x.fits(1), s == 8 || s == 9);
            CHECKS.due("room in " + s + " alone: slotOf(0)", x.slotOf(0), s == 8 || s == 9 ? s : NONE);
            x.setRoom(s, 0);
        }
        SlotMarket gappy = Sample.GAPPY.make();
        gappy.bring(0, 11, 9);
        CHECKS.due("the others stay: worth(0)", gappy.worth(0), 4);
        CHECKS.due("the others stay: worth(2)", gappy.worth(2), 4);
        CHECKS.due("the others stay: worth(4)", gappy.worth(4), 4);
        CHECKS.due("the new one: worth(1)", gappy.worth(1), 9);
        CHECKS.due("the new one: chosen()", gappy.chosen(), 0b00111);
    }

    private static void badChangesNothing() {
        CHECKS.says("Promise 2", "A call that answers BAD or FULL changes nothing.");
        int[][] bad = {
            {-1, 0, 5}, {-1, -1, 5}, {0, 12, 5}, {12, 12, 5}, {11, 12, 5}, {1, 0, 5}, {11, 10, 5},
            {0, 0, 0}, {0, 0, 21}, {0, 11, -1}, {12, -1, 0},
            {LEAST_INT, 0, 5}, {0, LEAST_INT, 5}, {0, 0, LEAST_INT}, {LEAST_INT, LEAST_INT, LEAST_INT},
            {MOST_INT, 11, 5}, {0, MOST_INT, 5}, {0, 0, MOST_INT}, {MOST_INT, MOST_INT, MOST_INT},
        };
        for (Sample sample : Sample.values()) {
            for (int[] job : bad) {
                Reading.dueUnchanged(CHECKS, sample, "bring" + text(job), x -> x.bring(job[0], job[1], job[2]), BAD);
            }
        }
    }

    private static void fullChangesNothing() {
        CHECKS.says("Promise 2", "A call that answers BAD or FULL changes nothing.");
        int[][] good = {{0, 0, 1}, {0, 11, 20}, {11, 11, 20}, {3, 3, 13}};
        for (int[] job : good) {
            String call = "bring" + text(job);
            Reading.dueUnchanged(CHECKS, Sample.CROWDED, call, x -> x.bring(job[0], job[1], job[2]), FULL);
            Reading.dueUnchanged(CHECKS, Sample.ROOMLESS, call, x -> x.bring(job[0], job[1], job[2]), FULL);
        }
    }

    private static String text(int[] numbers) {
        return java.util.Arrays.toString(numbers);
    }
}

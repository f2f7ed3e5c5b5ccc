/** Promises 1 to 8: what the market holds, and the calls that change it. */
public final class StateTest {
    private static final Checks CHECKS = new Checks();
    private static final int LEAST_INT = Integer.MIN_VALUE;
    private static final int MOST_INT = Integer.MAX_VALUE;

    public static void main(String[] args) {
        newObjectIsEmpty();
        capacityIsClamped();
        roomIsClamped();
        bringGivesLeastFreeNumber();
        bringRefusesBadJobs();
        bringLooksForBadBeforeFull();
        refusedBringChangesNothing();
        takeAnswersWhetherTheJobWasThere();
        takenJobLeavesNothingBehind();
        setRoomChangesOneSlot();
        setRoomRefusesWrongInputs();
        revalueChangesOneJob();
        revalueRefusesWrongInputs();
        roomOutsideTheSlotsIsNone();
        worthOfNoJobIsNone();
        objectsAreSeparate();
        CHECKS.finish();
    }

    private static void newObjectIsEmpty() {
        SlotMarket x = new SlotMarket(7, 2);
        CHECKS.due("new: jobs()", x.jobs(), 0);
        CHECKS.due("new: chosen()", x.chosen(), 0);
        CHECKS.due("new: total()", x.total(), 0);
        for (int s = 0; s < 12; s++) {
            CHECKS.due("new: room(" + s + ")", x.room(s), 2);
        }
        for (int id = 0; id < 7; id++) {
            CHECKS.due("new: worth(" + id + ")", x.worth(id), SlotMarket.NONE);
        }
    }

    private static void capacityIsClamped() {
        int[] given = {LEAST_INT, -1, 0, 1, 2, 3, 4, 5, 6, 7, 8, 32, MOST_INT};
        int[] kept = {1, 1, 1, 1, 2, 3, 4, 5, 6, 7, 7, 7, 7};
        for (int i = 0; i < given.length; i++) {
            SlotMarket x = new SlotMarket(given[i], 1);
            for (int id = 0; id < kept[i]; id++) {
                CHECKS.due("capacity " + given[i] + ": bring", x.bring(0, 11, 1), id);
            }
            CHECKS.due("capacity " + given[i] + ": one more", x.bring(0, 11, 1), SlotMarket.FULL);
        }
    }

    private static void roomIsClamped() {
        int[] given = {LEAST_INT, -1, 0, 1, 2, 3, 4, MOST_INT};
        int[] kept = {0, 0, 0, 1, 2, 3, 3, 3};
        for (int i = 0; i < given.length; i++) {
            SlotMarket x = new SlotMarket(7, given[i]);
            for (int s = 0; s < 12; s++) {
                CHECKS.due("first room " + given[i] + ": room(" + s + ")", x.room(s), kept[i]);
            }
        }
    }

    private static void bringGivesLeastFreeNumber() {
        SlotMarket x = fullMarket(7);
        x.take(4);
        x.take(1);
        x.take(6);
        CHECKS.due("jobs() with three gone", x.jobs(), 0b0101101);
        CHECKS.due("bring into the first gap", x.bring(0, 0, 9), 1);
        CHECKS.due("bring into the second gap", x.bring(0, 0, 9), 4);
        CHECKS.due("bring into the third gap", x.bring(0, 0, 9), 6);
        CHECKS.due("bring into none", x.bring(0, 0, 9), SlotMarket.FULL);
        CHECKS.due("jobs() when full", x.jobs(), 0b1111111);
    }

    private static void bringRefusesBadJobs() {
        int[][] bad = {
            {-1, 0, 1}, {LEAST_INT, 3, 1}, {0, 12, 1}, {0, MOST_INT, 1}, {12, 12, 1}, {MOST_INT, MOST_INT, 1},
            {5, 4, 1}, {11, 0, 1}, {-2, -1, 1}, {3, LEAST_INT, 1},
            {0, 0, 0}, {0, 0, -1}, {0, 0, 21}, {0, 0, LEAST_INT}, {0, 0, MOST_INT},
        };
        SlotMarket x = new SlotMarket(7, 1);
        for (int[] job : bad) {
            CHECKS.due("bad " + text(job), x.bring(job[0], job[1], job[2]), SlotMarket.BAD);
        }
        CHECKS.due("jobs() after bad ones", x.jobs(), 0);
        int[][] good = {{0, 0, 1}, {11, 11, 20}, {0, 11, 1}, {4, 5, 20}};
        for (int i = 0; i < good.length; i++) {
            CHECKS.due("good " + text(good[i]), x.bring(good[i][0], good[i][1], good[i][2]), i);
        }
    }

    private static void bringLooksForBadBeforeFull() {
        SlotMarket x = fullMarket(2);
        CHECKS.due("full: a worth of 0", x.bring(0, 0, 0), SlotMarket.BAD);
        CHECKS.due("full: a worth of 21", x.bring(0, 0, 21), SlotMarket.BAD);
        CHECKS.due("full: a window past 11", x.bring(0, 12, 5), SlotMarket.BAD);
        CHECKS.due("full: a window turned round", x.bring(1, 0, 5), SlotMarket.BAD);
        CHECKS.due("full: a good job", x.bring(0, 0, 5), SlotMarket.FULL);
    }

    private static void refusedBringChangesNothing() {
        SlotMarket x = fullMarket(2);
        x.bring(5, 5, 20);
        x.bring(5, 5, 21);
        CHECKS.due("refused: jobs()", x.jobs(), 3);
        CHECKS.due("refused: worth(0)", x.worth(0), 1);
        CHECKS.due("refused: worth(1)", x.worth(1), 2);
        CHECKS.due("refused: worth(2)", x.worth(2), SlotMarket.NONE);
        CHECKS.due("refused: slotOf(0)", x.slotOf(0), 0);
        CHECKS.due("refused: slotOf(1)", x.slotOf(1), 1);
        CHECKS.due("refused: total()", x.total(), 3);
    }

    private static void takeAnswersWhetherTheJobWasThere() {
        SlotMarket x = fullMarket(3);
        int[] absent = {-1, 3, 6, 7, 31, 32, 33, -31, -32, LEAST_INT, MOST_INT};
        for (int id : absent) {
            CHECKS.due("take(" + id + ")", x.take(id), false);
            CHECKS.due("take(" + id + "): jobs()", x.jobs(), 7);
        }
        CHECKS.due("take(1)", x.take(1), true);
        CHECKS.due("take(1): jobs()", x.jobs(), 5);
        CHECKS.due("take(1) again", x.take(1), false);
        CHECKS.due("take(1) again: jobs()", x.jobs(), 5);
        CHECKS.due("take(0)", x.take(0), true);
        CHECKS.due("take(2)", x.take(2), true);
        CHECKS.due("all taken: jobs()", x.jobs(), 0);
    }

    private static void takenJobLeavesNothingBehind() {
        SlotMarket x = new SlotMarket(7, 1);
        x.bring(3, 3, 20);
        x.take(0);
        CHECKS.due("taken: worth(0)", x.worth(0), SlotMarket.NONE);
        CHECKS.due("taken: price(0)", x.price(0), SlotMarket.NONE);
        CHECKS.due("taken: slotOf(0)", x.slotOf(0), SlotMarket.NONE);
        CHECKS.due("taken: total()", x.total(), 0);
        CHECKS.due("taken: fits(1)", x.fits(1), false);
        CHECKS.due("taken: revalue(0, 5)", x.revalue(0, 5), false);
        CHECKS.due("brought anew", x.bring(8, 9, 4), 0);
        CHECKS.due("brought anew: worth(0)", x.worth(0), 4);
        CHECKS.due("brought anew: slotOf(0)", x.slotOf(0), 8);
    }

    private static void setRoomChangesOneSlot() {
        for (int s = 0; s < 12; s++) {
            SlotMarket x = new SlotMarket(7, 1);
            for (int n = 3; n >= 0; n--) {
                CHECKS.due("setRoom(" + s + ", " + n + ")", x.setRoom(s, n), true);
                for (int other = 0; other < 12; other++) {
                    CHECKS.due("room(" + other + ")", x.room(other), other == s ? n : 1);
                }
            }
        }
    }

    private static void setRoomRefusesWrongInputs() {
        SlotMarket x = new SlotMarket(7, 2);
        int[][] wrong = {
            {-1, 1}, {12, 1}, {LEAST_INT, 1}, {MOST_INT, 1}, {3, -1}, {3, 4}, {3, LEAST_INT}, {3, MOST_INT}, {12, 4},
        };
        for (int[] call : wrong) {
            CHECKS.due("setRoom" + text(call), x.setRoom(call[0], call[1]), false);
        }
        for (int s = 0; s < 12; s++) {
            CHECKS.due("after wrong setRoom: room(" + s + ")", x.room(s), 2);
        }
    }

    private static void revalueChangesOneJob() {
        SlotMarket x = fullMarket(3);
        CHECKS.due("revalue(1, 20)", x.revalue(1, 20), true);
        CHECKS.due("revalue(2, 1)", x.revalue(2, 1), true);
        CHECKS.due("revalued: worth(0)", x.worth(0), 1);
        CHECKS.due("revalued: worth(1)", x.worth(1), 20);
        CHECKS.due("revalued: worth(2)", x.worth(2), 1);
        CHECKS.due("revalued: total()", x.total(), 22);
        CHECKS.due("revalued: slotOf(1)", x.slotOf(1), 1);
    }

    private static void revalueRefusesWrongInputs() {
        SlotMarket x = fullMarket(3);
        x.take(1);
        int[][] wrong = {
            {0, 0}, {0, 21}, {0, -1}, {0, LEAST_INT}, {0, MOST_INT},
            {1, 5}, {3, 5}, {7, 5}, {32, 5}, {-1, 5}, {LEAST_INT, 5}, {MOST_INT, 5},
        };
        for (int[] call : wrong) {
            CHECKS.due("revalue" + text(call), x.revalue(call[0], call[1]), false);
        }
        CHECKS.due("after wrong revalue: worth(0)", x.worth(0), 1);
        CHECKS.due("after wrong revalue: worth(1)", x.worth(1), SlotMarket.NONE);
        CHECKS.due("after wrong revalue: worth(2)", x.worth(2), 3);
        CHECKS.due("after wrong revalue: jobs()", x.jobs(), 5);
    }

    private static void roomOutsideTheSlotsIsNone() {
        SlotMarket x = new SlotMarket(7, 3);
        int[] wrong = {-1, 12, 13, LEAST_INT, MOST_INT};
        for (int s : wrong) {
            CHECKS.due("room(" + s + ")", x.room(s), SlotMarket.NONE);
        }
    }

    private static void worthOfNoJobIsNone() {
        SlotMarket x = fullMarket(3);
        int[] wrong = {-1, 3, 6, 7, 32, -32, LEAST_INT, MOST_INT};
        for (int id : wrong) {
            CHECKS.due("worth(" + id + ")", x.worth(id), SlotMarket.NONE);
        }
        for (int id = 0; id < 3; id++) {
            CHECKS.due("worth(" + id + ")", x.worth(id), id + 1);
        }
    }

    private static void objectsAreSeparate() {
        SlotMarket x = fullMarket(3);
        SlotMarket y = new SlotMarket(7, 0);
        y.bring(4, 4, 17);
        y.setRoom(4, 3);
        CHECKS.due("separate: x.worth(0)", x.worth(0), 1);
        CHECKS.due("separate: x.room(4)", x.room(4), 1);
        CHECKS.due("separate: y.jobs()", y.jobs(), 1);
        CHECKS.due("separate: y.room(3)", y.room(3), 0);
    }

    /** Job i has the window i .. i and the worth i + 1; every slot has room for one. */
    private static SlotMarket fullMarket(int jobs) {
        SlotMarket x = new SlotMarket(jobs, 1);
        for (int id = 0; id < jobs; id++) {
            x.bring(id, id, id + 1);
        }
        return x;
    }

    private static String text(int[] numbers) {
        return java.util.Arrays.toString(numbers);
    }
}

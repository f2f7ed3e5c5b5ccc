/** The sentences of promises 9 (chosen), 10 (total) and 11 (fits); which set is chosen is in TermsTest. */
public final class ChoiceTest {
    private static final Checks CHECKS = new Checks();

    public static void main(String[] args) {
        bitsTellTheChosenJobs();
        totalAddsTheChosenWorths();
        totalAtItsEdges();
        fitsTellsOfEverySet();
        fitsDoesNotAskForWorth();
        fitsRefusesEveryBitOfNoJob();
        fitsRefusesTheLeastAndTheGreatestInt();
        CHECKS.finish();
    }

    private static void bitsTellTheChosenJobs() {
        CHECKS.says("Promise 9", "The chosen set: bit i is set when job i is in it.");
        for (int set = 0; set < 128; set++) {
            SlotMarket x = new SlotMarket(7, 0);
            for (int id = 0; id < 7; id++) {
                x.bring(id, id, 1 + id);
                x.setRoom(id, set >> id & 1);
            }
            CHECKS.due("room for " + Integer.toBinaryString(set) + ": chosen()", x.chosen(), set);
        }
        CHECKS.due("EMPTY: chosen()", Sample.EMPTY.make().chosen(), 0);
        CHECKS.due("ROOMLESS: chosen()", Sample.ROOMLESS.make().chosen(), 0);
        CHECKS.due("GAPPY: chosen()", Sample.GAPPY.make().chosen(), 0b0000101);
        CHECKS.due("CROWDED: chosen()", Sample.CROWDED.make().chosen(), 0b1101101);
    }

    private static void totalAddsTheChosenWorths() {
        CHECKS.says("Promise 10", "The total worth of the chosen set.");
        for (int set = 0; set < 128; set++) {
            SlotMarket x = new SlotMarket(7, 0);
            int due = 0;
            for (int id = 0; id < 7; id++) {
                x.bring(id, id, 1 + 3 * id);
                x.setRoom(id, set >> id & 1);
                due += (set >> id & 1) * (1 + 3 * id);
            }
            CHECKS.due("room for " + Integer.toBinaryString(set) + ": total()", x.total(), due);
        }
        CHECKS.due("GAPPY: total()", Sample.GAPPY.make().total(), 8);
        CHECKS.due("CROWDED: total()", Sample.CROWDED.make().total(), 55);
    }

    private static void totalAtItsEdges() {
        CHECKS.says("Promise 10", "The total worth");
        CHECKS.due("no jobs: total()", Sample.EMPTY.make().total(), 0);
        CHECKS.due("no room: total()", Sample.ROOMLESS.make().total(), 0);
        SlotMarket least = new SlotMarket(1, 1);
        least.bring(0, 0, 1);
        CHECKS.due("one job worth 1: total()", least.total(), 1);
        SlotMarket most = new SlotMarket(7, 3);
        for (int i = 0; i < 7; i++) {
            most.bring(0, 2, 20);
        }
        CHECKS.due("seven jobs worth 20: total()", most.total(), 140);
    }

    private static void fitsTellsOfEverySet() {
        CHECKS.says("Promise 11", "Whether the set of the jobs whose bits are set in set fits.");
        // Slot 0 has room for 2, slot 1 for 1; 0, 1 and 2 go to slot 0, 3 and 4 to slot 1, 5 to either, 6 to none.
        SlotMarket x = new SlotMarket(7, 0);
        x.setRoom(0, 2);
        x.setRoom(1, 1);
        x.bring(0, 0, 1);
        x.bring(0, 0, 20);
        x.bring(0, 0, 3);
        x.bring(1, 1, 3);
        x.bring(1, 1, 20);
        x.bring(0, 1, 1);
        x.bring(2, 11, 20);
        for (int set = 0; set < 128; set++) {
            int inZero = Integer.bitCount(set & 0b0000111);
            int inOne = Integer.bitCount(set & 0b0011000);
            int inEither = Integer.bitCount(set & 0b0100000);
            boolean due = inZero <= 2 && inOne <= 1 && inZero + inOne + inEither <= 3 && set < 64;
            CHECKS.due("fits(" + Integer.toBinaryString(set) + ")", x.fits(set), due);
        }
    }

    private static void fitsDoesNotAskForWorth() {
        CHECKS.says("Promise 11", "the set of the jobs whose bits are set in set");
        SlotMarket x = Sample.GAPPY.make();
        CHECKS.due("the chosen set: fits(00101)", x.fits(0b00101), true);
        CHECKS.due("a set of the same worth: fits(10100)", x.fits(0b10100), true);
        CHECKS.due("a job that is not chosen: fits(10000)", x.fits(0b10000), true);
        CHECKS.due("two for one place: fits(10001)", x.fits(0b10001), false);
    }

    private static void fitsRefusesEveryBitOfNoJob() {
        CHECKS.says("Promise 11", "False when a bit is set for a number that no job holds (bits 0 .. 31).");
        for (int held = 0; held < 128; held++) {
            SlotMarket x = new SlotMarket(7, 3);
            for (int i = 0; i < 7; i++) {
                x.bring(0, 11, 1);
            }
            for (int id = 0; id < 7; id++) {
                if ((held >> id & 1) == 0) {
                    x.take(id);
                }
            }
            String run = "held " + Integer.toBinaryString(held);
            CHECKS.due(run + ": fits(held)", x.fits(held), true);
            for (int bit = 0; bit < 32; bit++) {
                boolean due = (held >> bit & 1) == 1;
                CHECKS.due(run + ": fits(1 << " + bit + ")", x.fits(1 << bit), due);
                CHECKS.due(run + ": fits(held | 1 << " + bit + ")", x.fits(held | 1 << bit), due);
            }
        }
    }

    private static void fitsRefusesTheLeastAndTheGreatestInt() {
        CHECKS.says("Promise 11", "(bits 0 .. 31)");
        int[] far = {
            Edges.LEAST_INT, Edges.LEAST_INT | 1, Edges.LEAST_INT | 127, Edges.MOST_INT, -1, -2, -127, -128,
            128, 129, 255, 256, 257, 65536, 65537,
        };
        for (Sample sample : Sample.values()) {
            SlotMarket x = sample.make();
            for (int set : far) {
                CHECKS.due(sample + ": fits(" + set + ")", x.fits(set), false);
            }
        }
        SlotMarket all = new SlotMarket(7, 3);
        for (int i = 0; i < 7; i++) {
            all.bring(0, 11, 1);
        }
        CHECKS.due("seven jobs: fits(127)", all.fits(127), true);
        for (int set : far) {
            CHECKS.due("seven jobs: fits(" + set + ")", all.fits(set), false);
        }
    }
}

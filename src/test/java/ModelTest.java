/** Promises 1 to 15: long mixed runs of calls, each answer held against the model's. */
public final class ModelTest {
    private static final Checks CHECKS = new Checks();
    private static final int RUNS = 1500;
    private static final int MOST_CALLS = 512;
    private static final int[] FAR = {Integer.MIN_VALUE, -33, -32, -1, 12, 21, 31, 32, 33, 64, Integer.MAX_VALUE};

    // The same numbers in every run of the test, so a wrong answer can be looked at again.
    private long seed = 20261115;

    private SlotMarket market;
    private Model model;
    private String run;
    private int calls;
    // Narrow ranges make jobs meet in few slots and tie in worth; wide ones reach the edges.
    private int slotRange;
    private int slotOffset;
    private int worthRange;
    private int roomRange;

    public static void main(String[] args) {
        ModelTest test = new ModelTest();
        for (int i = 0; i < RUNS && CHECKS.wrong() == 0; i++) {
            test.oneRun(i);
        }
        CHECKS.finish();
    }

    private void oneRun(int number) {
        int capacity = pick(4) == 0 ? pick(12) - 2 : 7;
        int room = pick(7) - 1;
        market = new SlotMarket(capacity, room);
        model = new Model(capacity, room);
        run = "run " + number + ": new(" + capacity + ", " + room + ")";
        calls = 0;
        slotRange = 1 + pick(12);
        slotOffset = pick(13 - slotRange);
        worthRange = pick(2) == 0 ? 1 + pick(4) : 20;
        roomRange = 2 + pick(3);
        for (int round = 0; round < 4; round++) {
            int changes = 6 + pick(20);
            for (int i = 0; i < changes; i++) {
                change();
            }
            askEverything();
        }
    }

    private void change() {
        switch (pick(10)) {
            case 0 -> take(number(7));
            case 1, 2 -> revalue(number(7), number(worthRange) + 1);
            case 3, 4, 5 -> setRoom(slotOffset + number(slotRange), number(roomRange));
            case 6 -> bring(number(12), number(12), number(20) + 1);
            default -> {
                int a = slotOffset + pick(slotRange);
                int b = slotOffset + pick(slotRange);
                bring(Math.min(a, b), Math.max(a, b), 1 + pick(worthRange));
            }
        }
    }

    private void bring(int first, int last, int worth) {
        String call = "bring(" + first + ", " + last + ", " + worth + ")";
        changed(call, market.bring(first, last, worth), model.bring(first, last, worth));
    }

    private void take(int id) {
        changed("take(" + id + ")", market.take(id) ? 1 : 0, model.take(id) ? 1 : 0);
    }

    private void setRoom(int s, int n) {
        changed("setRoom(" + s + ", " + n + ")", market.setRoom(s, n) ? 1 : 0, model.setRoom(s, n) ? 1 : 0);
    }

    private void revalue(int id, int worth) {
        String call = "revalue(" + id + ", " + worth + ")";
        changed(call, market.revalue(id, worth) ? 1 : 0, model.revalue(id, worth) ? 1 : 0);
    }

    private void changed(String call, int got, int want) {
        run += " " + call;
        due(call, got, want);
    }

    private void askEverything() {
        due("jobs()", market.jobs(), model.present);
        due("chosen()", market.chosen(), model.chosen());
        due("total()", market.total(), model.total());
        for (int s = 0; s < 12; s++) {
            askSlot(s);
        }
        askSlot(FAR[pick(FAR.length)]);
        for (int id = 0; id < 7; id++) {
            askJob(id);
        }
        askJob(FAR[pick(FAR.length)]);
        for (int i = 0; i < 8; i++) {
            askFits(pick(128) & (pick(4) == 0 ? -1 : model.present));
        }
        askFits(model.present);
        askFits(1 << pick(32) | model.chosen());
        // Asked last as well: none of the questions before may have changed anything.
        due("chosen() again", market.chosen(), model.chosen());
        due("total() again", market.total(), model.total());
    }

    private void askSlot(int s) {
        due("room(" + s + ")", market.room(s), model.room(s));
        due("loss(" + s + ")", market.loss(s), model.loss(s));
        due("gain(" + s + ")", market.gain(s), model.gain(s));
    }

    private void askJob(int id) {
        due("worth(" + id + ")", market.worth(id), model.worth(id));
        due("price(" + id + ")", market.price(id), model.price(id));
        due("slotOf(" + id + ")", market.slotOf(id), model.slotOf(id));
    }

    private void askFits(int set) {
        due("fits(" + set + ")", market.fits(set) ? 1 : 0, model.fits(set) ? 1 : 0);
    }

    private void due(String call, int got, int want) {
        calls++;
        if (calls <= MOST_CALLS) {
            CHECKS.due(got == want ? call : run + " .. " + call, got, want);
        }
    }

    /** Mostly 0 .. range - 1; now and then a number at its edge or far outside. */
    private int number(int range) {
        int kind = pick(24);
        if (kind == 0) {
            return FAR[pick(FAR.length)];
        }
        if (kind == 1) {
            return pick(2) == 0 ? -1 : range;
        }
        return pick(range);
    }

    private int pick(int range) {
        seed = seed * 6364136223846793005L + 1442695040888963407L;
        return (int) ((seed >>> 33) % range);
    }
}

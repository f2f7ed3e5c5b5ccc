import java.util.LinkedHashMap;
import java.util.Map;
import java.util.function.ToIntFunction;

/**
 * All that a market can be asked, so that two markets read the same only when their states are the same.
 * Reading uses a market up: the windows and the free numbers show themselves only when rooms are changed
 * and jobs are brought. It takes some 320 of the 512 calls that an object has.
 */
final class Reading {
    private final Map<String, Integer> answers = new LinkedHashMap<>();

    private Reading(SlotMarket x) {
        askTotals(x);
        askSlots(x);
        askJobs(x);
        askSets(x);
        askWindows(x);
        askFreeNumbers(x);
    }

    /** Holds that the call answers what is due and leaves the market as one that was not called. */
    static void dueUnchanged(Checks checks, Sample sample, String call, ToIntFunction<SlotMarket> made, int want) {
        SlotMarket called = sample.make();
        String what = sample + ": " + call;
        checks.due(what, made.applyAsInt(called), want);
        dueSame(checks, what, called, sample.make());
    }

    /** Holds that a question leaves the market as one that was not asked. */
    static void dueUnchanged(Checks checks, Sample sample, String call, ToIntFunction<SlotMarket> made) {
        dueUnchanged(checks, sample, call, made, made.applyAsInt(sample.make()));
    }

    static void dueSame(Checks checks, String what, SlotMarket x, SlotMarket other) {
        Map<String, Integer> due = new Reading(other).answers;
        Map<String, Integer> got = new Reading(x).answers;
        for (String question : due.keySet()) {
            checks.due(what + ", then " + question, got.get(question), due.get(question));
        }
    }

    private void askTotals(SlotMarket x) {
        answers.put("jobs()", x.jobs());
        answers.put("chosen()", x.chosen());
        answers.put("total()", x.total());
    }

    private void askSlots(SlotMarket x) {
        for (int s = 0; s < 12; s++) {
            answers.put("room(" + s + ")", x.room(s));
            answers.put("loss(" + s + ")", x.loss(s));
            answers.put("gain(" + s + ")", x.gain(s));
        }
    }

    private void askJobs(SlotMarket x) {
        for (int id = 0; id < 7; id++) {
            answers.put("worth(" + id + ")", x.worth(id));
            answers.put("price(" + id + ")", x.price(id));
            answers.put("slotOf(" + id + ")", x.slotOf(id));
        }
    }

    private void askSets(SlotMarket x) {
        for (int set = 0; set < 128; set++) {
            answers.put("fits(" + set + ")", x.fits(set) ? 1 : 0);
        }
    }

    private void askWindows(SlotMarket x) {
        for (int s = 0; s < 12; s++) {
            x.setRoom(s, 0);
        }
        for (int s = 0; s < 12; s++) {
            x.setRoom(s, 1);
            for (int id = 0; id < 7; id++) {
                answers.put("room in " + s + " alone: fits(1 << " + id + ")", x.fits(1 << id) ? 1 : 0);
            }
            x.setRoom(s, 0);
        }
    }

    private void askFreeNumbers(SlotMarket x) {
        for (int turn = 1; turn <= 8; turn++) {
            answers.put("bring " + turn, x.bring(0, 0, 1));
        }
    }
}

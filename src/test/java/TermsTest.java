import java.util.function.ToIntFunction;

/** The sentences of "What it is" and of "Terms". */
public final class TermsTest {
    private static final Checks CHECKS = new Checks();

    public static void main(String[] args) {
        slotsAreTwelve();
        the512thCallIsAnswered();
        slotHasRoomForZeroToThree();
        jobTakesOnePlace();
        windowReachesFromFirstToLast();
        worthReachesFromOneToTwenty();
        numbersEndBelowCapacity();
        setFitsInItsWindows();
        setFitsWithinTheRooms();
        emptySetFits();
        greatestTotalIsChosen();
        oneGreaterOrTwoLesser();
        nothingFitsNothingIsChosen();
        everythingFitsEverythingIsChosen();
        lowerNumberPartsTwoJobs();
        lowerNumberPartsTwoSets();
        worthGoesBeforeNumber();
        historyDoesNotMatter();
        askingDoesNotMatter();
        CHECKS.finish();
    }

    private static void slotsAreTwelve() {
        // The sentence is cut; its end, "11.", stands at the head of "Terms".
        CHECKS.says("What it is", "A market for places in twelve time slots 0 ..");
        SlotMarket x = new SlotMarket(1, 2);
        for (int s = -2; s <= 13; s++) {
            boolean slot = 0 <= s && s <= 11;
            CHECKS.due("room(" + s + ")", x.room(s), slot ? 2 : SlotMarket.NONE);
            CHECKS.due("loss(" + s + ")", x.loss(s), slot ? 0 : SlotMarket.NONE);
            CHECKS.due("gain(" + s + ")", x.gain(s), slot ? 0 : SlotMarket.NONE);
            CHECKS.due("bring(" + s + ", " + s + ", 1)", x.bring(s, s, 1), slot ? 0 : SlotMarket.BAD);
            CHECKS.due("then slotOf(0)", x.slotOf(0), slot ? s : SlotMarket.NONE);
            CHECKS.due("setRoom(" + s + ", 2)", x.setRoom(s, 2), slot);
            x.take(0);
        }
    }

    private static void the512thCallIsAnswered() {
        CHECKS.says("What it is", "An object is used for at most 512 calls after it has been made");
        dueLast("bring(0, 0, 1)", x -> x.bring(0, 0, 1), 1);
        dueLast("take(2)", x -> x.take(2) ? 1 : 0, 1);
        dueLast("setRoom(7, 1)", x -> x.setRoom(7, 1) ? 1 : 0, 1);
        dueLast("revalue(4, 20)", x -> x.revalue(4, 20) ? 1 : 0, 1);
        dueLast("room(0)", x -> x.room(0), 3);
        dueLast("jobs()", x -> x.jobs(), 0b10101);
        dueLast("worth(4)", x -> x.worth(4), 4);
        dueLast("chosen()", x -> x.chosen(), 0b00101);
        dueLast("total()", x -> x.total(), 8);
        dueLast("fits(00101)", x -> x.fits(0b00101) ? 1 : 0, 1);
        dueLast("price(4)", x -> x.price(4), 5);
        dueLast("loss(8)", x -> x.loss(8), 4);
        dueLast("gain(8)", x -> x.gain(8), 4);
        dueLast("slotOf(2)", x -> x.slotOf(2), 9);
    }

    private static void dueLast(String call, ToIntFunction<SlotMarket> made, int want) {
        SlotMarket x = new SlotMarket(5, 2);
        use511Calls(x);
        CHECKS.due("as the 512th call, " + call, made.applyAsInt(x), want);
    }

    /** 50 rounds of 10 calls that leave nothing behind, the 10 that make Sample.GAPPY, and one question. */
    private static void use511Calls(SlotMarket x) {
        for (int round = 0; round < 50; round++) {
            int id = x.bring(round % 12, 11, 1 + round % 20);
            x.chosen();
            x.price(id);
            x.gain(round % 12);
            x.loss(round % 12);
            x.slotOf(id);
            x.setRoom(round % 12, 2);
            x.revalue(id, 20);
            x.bring(12, 0, 0);
            x.take(id);
        }
        Sample.gappy(x);
        x.total();
    }

    private static void slotHasRoomForZeroToThree() {
        CHECKS.says("Terms", "A slot s has ROOM for room(s) jobs, 0 to 3.");
        for (int s = 0; s < 12; s++) {
            SlotMarket x = new SlotMarket(7, 0);
            bringMany(x, 7, s, s, 1);
            for (int n = 0; n <= 3; n++) {
                x.setRoom(s, n);
                for (int jobs = 0; jobs <= 7; jobs++) {
                    int set = (1 << jobs) - 1;
                    CHECKS.due("slot " + s + ", room " + n + ": fits(" + set + ")", x.fits(set), jobs <= n);
                }
                CHECKS.due("slot " + s + ", room " + n + ": total()", x.total(), n);
            }
        }
    }

    private static void jobTakesOnePlace() {
        CHECKS.says("Terms", "Every job takes one place in one slot;");
        SlotMarket x = new SlotMarket(7, 0);
        bringMany(x, 7, 0, 11, 1);
        for (int places = 0; places <= 9; places++) {
            for (int jobs = 0; jobs <= 7; jobs++) {
                int set = (1 << jobs) - 1;
                CHECKS.due(places + " places in all: fits(" + set + ")", x.fits(set), jobs <= places);
            }
            x.setRoom(places, 1);
        }
        SlotMarket pair = new SlotMarket(2, 0);
        pair.setRoom(5, 2);
        pair.bring(5, 5, 1);
        pair.bring(4, 6, 1);
        CHECKS.due("two places of one slot: fits(11)", pair.fits(0b11), true);
    }

    private static void windowReachesFromFirstToLast() {
        CHECKS.says("Terms", "it has a window of slots first .. last");
        for (int first = 0; first < 12; first++) {
            for (int last = first; last < 12; last++) {
                SlotMarket x = new SlotMarket(1, 0);
                x.bring(first, last, 6);
                String job = "window " + first + " .. " + last;
                for (int s = 0; s < 12; s++) {
                    boolean inside = first <= s && s <= last;
                    x.setRoom(s, 1);
                    CHECKS.due(job + ", room in " + s + ": fits(1)", x.fits(1), inside);
                    CHECKS.due(job + ", room in " + s + ": total()", x.total(), inside ? 6 : 0);
                    x.setRoom(s, 0);
                }
            }
        }
    }

    private static void worthReachesFromOneToTwenty() {
        CHECKS.says("Terms", "and a worth of 1 to 20.");
        for (int worth = 1; worth <= 20; worth++) {
            SlotMarket x = new SlotMarket(1, 1);
            CHECKS.due("bring(0, 0, " + worth + ")", x.bring(0, 0, worth), 0);
            CHECKS.due("brought with " + worth + ": worth(0)", x.worth(0), worth);
            CHECKS.due("brought with " + worth + ": total()", x.total(), worth);
        }
    }

    private static void numbersEndBelowCapacity() {
        CHECKS.says("Terms", "Jobs hold numbers 0 .. capacity - 1.");
        for (int capacity = 1; capacity <= 7; capacity++) {
            SlotMarket x = new SlotMarket(capacity, 1);
            bringMany(x, 9, 0, 11, 1);
            String run = "capacity " + capacity + ", filled: ";
            CHECKS.due(run + "jobs()", x.jobs(), (1 << capacity) - 1);
            CHECKS.due(run + "worth(" + (capacity - 1) + ")", x.worth(capacity - 1), 1);
            CHECKS.due(run + "worth(" + capacity + ")", x.worth(capacity), SlotMarket.NONE);
            CHECKS.due(run + "take(" + capacity + ")", x.take(capacity), false);
            CHECKS.due(run + "revalue(" + capacity + ", 1)", x.revalue(capacity, 1), false);
            CHECKS.due(run + "price(" + capacity + ")", x.price(capacity), SlotMarket.NONE);
            CHECKS.due(run + "slotOf(" + capacity + ")", x.slotOf(capacity), SlotMarket.NONE);
            for (int id = 0; id < capacity; id++) {
                x.take(id);
                CHECKS.due(run + "bring after take(" + id + ")", x.bring(0, 11, 1), id);
            }
        }
    }

    private static void setFitsInItsWindows() {
        CHECKS.says("Terms", "A set of jobs FITS when every job of the set can be given a slot of its own window");
        // The wide job must leave the slots of the narrow ones, on either side.
        SlotMarket x = new SlotMarket(7, 1);
        x.bring(3, 5, 1);
        x.bring(3, 3, 1);
        x.bring(5, 5, 1);
        x.bring(4, 4, 1);
        CHECKS.due("fits(0111)", x.fits(0b0111), true);
        CHECKS.due("fits(1011)", x.fits(0b1011), true);
        CHECKS.due("fits(1101)", x.fits(0b1101), true);
        CHECKS.due("fits(1110)", x.fits(0b1110), true);
        CHECKS.due("fits(1111)", x.fits(0b1111), false);
        // A chain in which each job must move on by one slot for the last.
        SlotMarket chain = new SlotMarket(7, 1);
        for (int s = 0; s < 6; s++) {
            chain.bring(s, s + 1, 1);
        }
        chain.bring(0, 0, 1);
        CHECKS.due("chain: fits(1111111)", chain.fits(0b1111111), true);
        chain.setRoom(6, 0);
        CHECKS.due("chain cut short: fits(1111111)", chain.fits(0b1111111), false);
        CHECKS.due("chain cut short: fits(1011111)", chain.fits(0b1011111), true);
    }

    private static void setFitsWithinTheRooms() {
        CHECKS.says("Terms", "so that no slot is given to more jobs than it has room for.");
        SlotMarket x = new SlotMarket(7, 1);
        x.bring(3, 5, 1);
        x.bring(3, 3, 1);
        x.bring(5, 5, 1);
        x.bring(4, 4, 1);
        x.setRoom(4, 2);
        CHECKS.due("4 has room for 2: fits(1111)", x.fits(0b1111), true);
        x.setRoom(3, 0);
        CHECKS.due("3 has room for 0: fits(0010)", x.fits(0b0010), false);
        CHECKS.due("3 has room for 0: fits(1101)", x.fits(0b1101), true);
        CHECKS.due("3 has room for 0: fits(1111)", x.fits(0b1111), false);
        x.setRoom(3, 2);
        x.setRoom(4, 1);
        CHECKS.due("3 has room for 2: fits(1111)", x.fits(0b1111), true);
        x.setRoom(4, 0);
        CHECKS.due("4 has room for 0: fits(1000)", x.fits(0b1000), false);
        CHECKS.due("4 has room for 0: fits(0111)", x.fits(0b0111), true);
    }

    private static void emptySetFits() {
        CHECKS.says("Terms", "The empty set fits.");
        for (int room = 0; room <= 3; room++) {
            CHECKS.due("no jobs, room " + room + ": fits(0)", new SlotMarket(7, room).fits(0), true);
        }
        for (Sample sample : Sample.values()) {
            CHECKS.due(sample + ": fits(0)", sample.make().fits(0), true);
        }
        SlotMarket x = new SlotMarket(1, 0);
        x.bring(0, 0, 1);
        CHECKS.due("no room for the job: fits(0)", x.fits(0), true);
        x.take(0);
        CHECKS.due("the last job taken: fits(0)", x.fits(0), true);
    }

    private static void greatestTotalIsChosen() {
        CHECKS.says("Terms", "of all sets of the present jobs that fit, the one with the greatest total worth;");
        SlotMarket x = new SlotMarket(7, 1);
        x.bring(6, 6, 4);
        x.bring(6, 6, 9);
        x.bring(6, 7, 3);
        dueChosen("one place contended", x, 0b110, 12);
        x.bring(7, 7, 20);
        dueChosen("both places contended", x, 0b1010, 29);
        x.take(1);
        dueChosen("the present jobs alone", x, 0b1001, 24);
        dueChosen("CROWDED", Sample.CROWDED.make(), 0b1101101, 55);
        dueChosen("GAPPY", Sample.GAPPY.make(), 0b00101, 8);
    }

    private static void oneGreaterOrTwoLesser() {
        CHECKS.says("Terms", "the one with the greatest total worth;");
        SlotMarket x = new SlotMarket(7, 0);
        x.setRoom(0, 1);
        x.setRoom(1, 1);
        x.bring(0, 1, 10);
        x.bring(0, 0, 9);
        x.bring(1, 1, 8);
        dueChosen("8 stays out", x, 0b011, 19);
        x.revalue(0, 7);
        dueChosen("7 stays out", x, 0b110, 17);
        x.revalue(0, 9);
        x.revalue(1, 7);
        dueChosen("7 stays out again", x, 0b101, 17);
    }

    private static void nothingFitsNothingIsChosen() {
        CHECKS.says("Terms", "of all sets of the present jobs that fit");
        SlotMarket x = new SlotMarket(7, 0);
        dueChosen("no jobs", x, 0, 0);
        x.bring(0, 11, 20);
        x.bring(3, 3, 1);
        dueChosen("no room anywhere", x, 0, 0);
        x.setRoom(4, 1);
        dueChosen("room for the wide one", x, 0b01, 20);
    }

    private static void everythingFitsEverythingIsChosen() {
        CHECKS.says("Terms", "THE CHOSEN SET is, of all sets of the present jobs that fit, the one with the greatest");
        SlotMarket x = new SlotMarket(7, 3);
        bringMany(x, 7, 0, 11, 20);
        dueChosen("the greatest worths of all", x, 0b1111111, 140);
        SlotMarket least = new SlotMarket(7, 1);
        bringMany(least, 7, 0, 6, 1);
        dueChosen("the least worths, seven places", least, 0b1111111, 7);
        SlotMarket one = new SlotMarket(7, 3);
        bringMany(one, 7, 11, 11, 20);
        dueChosen("three places for seven", one, 0b111, 60);
    }

    private static void lowerNumberPartsTwoJobs() {
        CHECKS.says("Terms", "of several with that worth, the one that contains the least job number on which they differ");
        for (int low = 0; low < 7; low++) {
            for (int high = low + 1; high < 7; high++) {
                dueLower(low, high, false);
                dueLower(low, high, true);
            }
        }
    }

    /** The lower number is preferred whether its job was there before the other or came after it. */
    private static void dueLower(int low, int high, boolean lowComesLast) {
        SlotMarket x = new SlotMarket(7, 1);
        bringMany(x, 7, 4, 4, 13);
        for (int id = 0; id < 7; id++) {
            if (id != low && id != high) {
                x.take(id);
            }
        }
        if (lowComesLast) {
            // The numbers below must be held for a while, or the job would be given one of those.
            x.take(low);
            bringMany(x, low + 1, 4, 4, 13);
            for (int id = 0; id < low; id++) {
                x.take(id);
            }
        }
        String run = low + " and " + high + (lowComesLast ? ", the lower came last" : "");
        CHECKS.due(run + ": jobs()", x.jobs(), 1 << low | 1 << high);
        dueChosen(run, x, 1 << low, 13);
    }

    private static void lowerNumberPartsTwoSets() {
        CHECKS.says("Terms", "take the least number that is in one of them and not in the other: the set that has it goes before");
        SlotMarket x = new SlotMarket(7, 0);
        x.setRoom(5, 2);
        bringMany(x, 7, 5, 5, 6);
        dueChosen("seven equal, two places", x, 0b0000011, 12);
        x.take(0);
        dueChosen("six equal, two places", x, 0b0000110, 12);
        x.revalue(6, 7);
        dueChosen("6 is in all of them", x, 0b1000010, 13);
        SlotMarket y = new SlotMarket(7, 0);
        y.setRoom(2, 1);
        y.setRoom(9, 1);
        y.bring(2, 2, 5);
        y.bring(2, 2, 5);
        y.bring(9, 9, 5);
        y.bring(9, 9, 5);
        dueChosen("four sets of one worth", y, 0b0101, 10);
        y.revalue(3, 6);
        dueChosen("two sets of one worth", y, 0b1001, 11);
        y.revalue(1, 6);
        dueChosen("no other of that worth", y, 0b1010, 12);
    }

    private static void worthGoesBeforeNumber() {
        CHECKS.says("Terms", "of several with that worth");
        SlotMarket x = new SlotMarket(7, 1);
        x.bring(0, 0, 19);
        x.bring(0, 0, 20);
        dueChosen("one more in worth", x, 0b10, 20);
        x.revalue(0, 20);
        dueChosen("equal in worth", x, 0b01, 20);
        x.revalue(1, 19);
        dueChosen("one less in worth", x, 0b01, 20);
    }

    private static void historyDoesNotMatter() {
        CHECKS.says("Terms", "It follows from the present jobs and rooms alone.");
        SlotMarket x = new SlotMarket(5, 0);
        for (int s = 0; s < 12; s++) {
            x.setRoom(s, 3);
            x.setRoom(s, 2);
        }
        bringMany(x, 5, 8, 8, 20);
        x.take(4);
        x.take(2);
        x.bring(7, 9, 1);
        x.bring(8, 8, 1);
        x.take(0);
        x.bring(8, 8, 4);
        x.revalue(2, 20);
        x.revalue(2, 4);
        x.revalue(4, 4);
        x.take(3);
        x.take(1);
        x.setRoom(8, 1);
        x.setRoom(7, 0);
        x.setRoom(0, 3);
        Reading.dueSame(CHECKS, "GAPPY by another way", x, Sample.GAPPY.make());
        SlotMarket emptied = Sample.CROWDED.make();
        for (int id = 0; id < 7; id++) {
            emptied.take(id);
        }
        for (int s = 0; s < 12; s++) {
            emptied.setRoom(s, 3);
        }
        Reading.dueSame(CHECKS, "CROWDED, emptied", emptied, Sample.EMPTY.make());
    }

    private static void askingDoesNotMatter() {
        CHECKS.says("Terms", "from the present jobs and rooms alone.");
        for (Sample sample : Sample.values()) {
            Reading.dueUnchanged(CHECKS, sample, "jobs()", SlotMarket::jobs);
            Reading.dueUnchanged(CHECKS, sample, "chosen()", SlotMarket::chosen);
            Reading.dueUnchanged(CHECKS, sample, "total()", SlotMarket::total);
            for (int s : Edges.everySlot()) {
                Reading.dueUnchanged(CHECKS, sample, "room(" + s + ")", x -> x.room(s));
            }
            for (int id : Edges.everyNumber()) {
                Reading.dueUnchanged(CHECKS, sample, "worth(" + id + ")", x -> x.worth(id));
                Reading.dueUnchanged(CHECKS, sample, "slotOf(" + id + ")", x -> x.slotOf(id));
                Reading.dueUnchanged(CHECKS, sample, "fits(" + id + ")", x -> x.fits(id) ? 1 : 0);
            }
            Reading.dueUnchanged(CHECKS, sample, "fits(held)", x -> x.fits(sample.held) ? 1 : 0);
        }
    }

    private static void bringMany(SlotMarket x, int jobs, int first, int last, int worth) {
        for (int i = 0; i < jobs; i++) {
            x.bring(first, last, worth);
        }
    }

    private static void dueChosen(String run, SlotMarket x, int set, int total) {
        CHECKS.due(run + ": chosen()", x.chosen(), set);
        CHECKS.due(run + ": total()", x.total(), total);
    }
}

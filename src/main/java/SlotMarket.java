public final class SlotMarket {
    public static final int BAD = -1;
    public static final int FULL = -2;
    public static final int NONE = -1;

    private static final int MOST_JOBS = 7;
    private static final int SLOTS = 12;
    private static final int MOST_ROOM = 3;
    private static final int MOST_WORTH = 20;

    private final int capacity;
    private final int[] roomOf = new int[SLOTS];

    // Bit i is set when a job holds i; the three arrays below mean nothing for other numbers.
    private int present = 0;
    private final int[] firstOf = new int[MOST_JOBS];
    private final int[] lastOf = new int[MOST_JOBS];
    private final int[] worthOf = new int[MOST_JOBS];

    // Every question is worked out on this copy, so that "what if" never touches the market itself.
    private final int[] trialRoom = new int[SLOTS];
    private final int[] trialWorth = new int[MOST_JOBS];

    public SlotMarket(int capacity, int room) {
        this.capacity = clamp(capacity, 1, MOST_JOBS);
        int firstRoom = clamp(room, 0, MOST_ROOM);
        for (int s = 0; s < SLOTS; s++) {
            roomOf[s] = firstRoom;
        }
    }

    public int bring(int first, int last, int worth) {
        if (first < 0 || first > last || last >= SLOTS || !isWorth(worth)) {
            return BAD;
        }
        int id = leastFreeNumber();
        if (id == NONE) {
            return FULL;
        }
        present |= 1 << id;
        firstOf[id] = first;
        lastOf[id] = last;
        worthOf[id] = worth;
        return id;
    }

    public boolean take(int id) {
        if (!isIn(present, id)) {
            return false;
        }
        present &= ~(1 << id);
        return true;
    }

    public boolean setRoom(int s, int n) {
        if (!isSlot(s) || n < 0 || n > MOST_ROOM) {
            return false;
        }
        roomOf[s] = n;
        return true;
    }

    public boolean revalue(int id, int worth) {
        if (!isIn(present, id) || !isWorth(worth)) {
            return false;
        }
        worthOf[id] = worth;
        return true;
    }

    public int room(int s) {
        return isSlot(s) ? roomOf[s] : NONE;
    }

    public int jobs() {
        return present;
    }

    public int worth(int id) {
        return isIn(present, id) ? worthOf[id] : NONE;
    }

    public int chosen() {
        startTrial();
        return bestSet();
    }

    public int total() {
        startTrial();
        return bestTotal();
    }

    public boolean fits(int set) {
        if ((set & ~present) != 0) {
            return false;
        }
        startTrial();
        return canPlace(set);
    }

    public int price(int id) {
        if (!isIn(present, id)) {
            return NONE;
        }
        startTrial();
        for (int worth = 1; worth <= MOST_WORTH; worth++) {
            trialWorth[id] = worth;
            int best = bestSet();
            if (isIn(best, id)) {
                return worth;
            }
        }
        return MOST_WORTH + 1;
    }

    public int loss(int s) {
        if (!isSlot(s) || roomOf[s] == 0) {
            return NONE;
        }
        startTrial();
        int now = bestTotal();
        trialRoom[s]--;
        return now - bestTotal();
    }

    public int gain(int s) {
        if (!isSlot(s)) {
            return NONE;
        }
        startTrial();
        int now = bestTotal();
        trialRoom[s]++;
        return bestTotal() - now;
    }

    public int slotOf(int id) {
        startTrial();
        int rest = bestSet();
        if (!isIn(rest, id)) {
            return NONE;
        }
        for (int job = 0; job < id; job++) {
            if (isIn(rest, job)) {
                rest &= ~(1 << job);
                occupyFirstSlot(job, rest);
            }
        }
        rest &= ~(1 << id);
        return occupyFirstSlot(id, rest);
    }

    private static int clamp(int value, int least, int most) {
        if (value < least) {
            return least;
        }
        return value > most ? most : value;
    }

    private static boolean isSlot(int s) {
        return s >= 0 && s < SLOTS;
    }

    private static boolean isWorth(int worth) {
        return worth >= 1 && worth <= MOST_WORTH;
    }

    private static boolean isIn(int set, int id) {
        return id >= 0 && id < MOST_JOBS && (set & 1 << id) != 0;
    }

    private int leastFreeNumber() {
        for (int id = 0; id < capacity; id++) {
            if (!isIn(present, id)) {
                return id;
            }
        }
        return NONE;
    }

    private void startTrial() {
        for (int s = 0; s < SLOTS; s++) {
            trialRoom[s] = roomOf[s];
        }
        for (int id = 0; id < MOST_JOBS; id++) {
            trialWorth[id] = worthOf[id];
        }
    }

    private int bestTotal() {
        int best = bestSet();
        int sum = 0;
        for (int id = 0; id < MOST_JOBS; id++) {
            if (isIn(best, id)) {
                sum += trialWorth[id];
            }
        }
        return sum;
    }

    // The sets that fit are a matroid (jobs matched to places), so keeping, in the order of
    // preference, each job that still fits beside those kept misses no better set. The order sets
    // the lower number first among equal worths, which is how the document parts equal totals.
    private int bestSet() {
        int kept = 0;
        int waiting = present;
        for (int turn = 0; turn < MOST_JOBS; turn++) {
            int next = mostPreferred(waiting);
            waiting &= ~next;
            if (canPlace(kept | next)) {
                kept |= next;
            }
        }
        return kept;
    }

    // Answers the job as a set of one, or the empty set for the empty set.
    private int mostPreferred(int set) {
        int preferred = 0;
        int highest = 0;
        for (int id = 0; id < MOST_JOBS; id++) {
            int job = 1 << id;
            if ((set & job) != 0 && trialWorth[id] > highest) {
                preferred = job;
                highest = trialWorth[id];
            }
        }
        return preferred;
    }

    // Each place goes to the waiting job whose window closes soonest: in any timetable that does
    // otherwise, that job can change places with the one served, so nothing is missed.
    private boolean canPlace(int set) {
        int waiting = set;
        for (int s = 0; s < SLOTS; s++) {
            int places = trialRoom[s];
            for (int place = 0; place < places; place++) {
                int next = mostUrgent(waiting, s);
                waiting &= ~next;
            }
        }
        return waiting == 0;
    }

    // Answers the job as a set of one, or the empty set when no job of the set can use the slot.
    private int mostUrgent(int set, int slot) {
        int urgent = 0;
        int soonest = SLOTS;
        for (int id = 0; id < MOST_JOBS; id++) {
            int job = 1 << id;
            boolean canUse = firstOf[id] <= slot && slot <= lastOf[id];
            if ((set & job) != 0 && canUse && lastOf[id] < soonest) {
                urgent = job;
                soonest = lastOf[id];
            }
        }
        return urgent;
    }

    // Gives the job the least slot that leaves places for all the jobs of the rest.
    private int occupyFirstSlot(int id, int rest) {
        for (int s = 0; s < SLOTS; s++) {
            boolean canUse = firstOf[id] <= s && s <= lastOf[id];
            if (canUse && trialRoom[s] > 0) {
                trialRoom[s]--;
                if (canPlace(rest)) {
                    return s;
                }
                trialRoom[s]++;
            }
        }
        return NONE;
    }
}

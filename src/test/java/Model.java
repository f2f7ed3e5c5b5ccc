/**
 * The document's words taken literally, at any cost: every set and every way to give slots is tried,
 * so that the shorter ways of SlotMarket are held against something that does not share them.
 */
final class Model {
    private static final int JOBS = 7;
    private static final int SLOTS = 12;

    final int capacity;
    int present = 0;
    final int[] room = new int[SLOTS];
    final int[] first = new int[JOBS];
    final int[] last = new int[JOBS];
    final int[] worth = new int[JOBS];

    Model(int capacity, int room) {
        this.capacity = Math.max(1, Math.min(7, capacity));
        java.util.Arrays.fill(this.room, Math.max(0, Math.min(3, room)));
    }

    boolean holds(int id) {
        return id >= 0 && id < JOBS && (present >> id & 1) == 1;
    }

    int bring(int from, int to, int value) {
        if (!(0 <= from && from <= to && to <= 11 && 1 <= value && value <= 20)) {
            return -1;
        }
        if (Integer.bitCount(present) == capacity) {
            return -2;
        }
        int id = Integer.numberOfTrailingZeros(~present);
        present |= 1 << id;
        first[id] = from;
        last[id] = to;
        worth[id] = value;
        return id;
    }

    boolean take(int id) {
        boolean there = holds(id);
        if (there) {
            present &= ~(1 << id);
        }
        return there;
    }

    boolean setRoom(int s, int n) {
        boolean good = 0 <= s && s <= 11 && 0 <= n && n <= 3;
        if (good) {
            room[s] = n;
        }
        return good;
    }

    boolean revalue(int id, int value) {
        boolean good = holds(id) && 1 <= value && value <= 20;
        if (good) {
            worth[id] = value;
        }
        return good;
    }

    int room(int s) {
        return 0 <= s && s <= 11 ? room[s] : -1;
    }

    int worth(int id) {
        return holds(id) ? worth[id] : -1;
    }

    int chosen() {
        return best(fittingSets(), worth);
    }

    int total() {
        return sum(chosen(), worth);
    }

    boolean fits(int set) {
        return (set & ~present) == 0 && fittingSets()[set];
    }

    int price(int id) {
        if (!holds(id)) {
            return -1;
        }
        boolean[] fitting = fittingSets();
        int[] offered = worth.clone();
        for (offered[id] = 1; offered[id] <= 20; offered[id]++) {
            if ((best(fitting, offered) >> id & 1) == 1) {
                return offered[id];
            }
        }
        return 21;
    }

    int loss(int s) {
        return room(s) <= 0 ? -1 : total() - totalWithRoom(s, room[s] - 1);
    }

    int gain(int s) {
        return room(s) < 0 ? -1 : totalWithRoom(s, room[s] + 1) - total();
    }

    int slotOf(int id) {
        int set = chosen();
        if (!holds(id) || (set >> id & 1) == 0) {
            return -1;
        }
        int[] slots = new int[JOBS];
        firstTimetable(set, 0, room.clone(), slots);
        return slots[id];
    }

    private int totalWithRoom(int s, int n) {
        int before = room[s];
        room[s] = n;
        int answer = total();
        room[s] = before;
        return answer;
    }

    private boolean[] fittingSets() {
        boolean[] fitting = new boolean[1 << JOBS];
        for (int set = 0; set < fitting.length; set++) {
            fitting[set] = (set & ~present) == 0
                && everyPartFits(fitting, set)
                && firstTimetable(set, 0, room.clone(), new int[JOBS]);
        }
        return fitting;
    }

    /** A way for a set is a way for each of its parts; looking at them first keeps the search short. */
    private static boolean everyPartFits(boolean[] fitting, int set) {
        for (int id = 0; id < JOBS; id++) {
            if ((set >> id & 1) == 1 && !fitting[set & ~(1 << id)]) {
                return false;
            }
        }
        return true;
    }

    /** Tries the ways in the dictionary order, so the first one found is the first timetable. */
    private boolean firstTimetable(int set, int id, int[] left, int[] slots) {
        if (id == JOBS) {
            return true;
        }
        if ((set >> id & 1) == 0) {
            return firstTimetable(set, id + 1, left, slots);
        }
        for (int s = first[id]; s <= last[id]; s++) {
            if (left[s] > 0) {
                left[s]--;
                slots[id] = s;
                if (firstTimetable(set, id + 1, left, slots)) {
                    return true;
                }
                left[s]++;
            }
        }
        return false;
    }

    private static int best(boolean[] fitting, int[] values) {
        int best = 0;
        for (int set = 0; set < fitting.length; set++) {
            if (fitting[set] && goesBefore(set, best, values)) {
                best = set;
            }
        }
        return best;
    }

    private static boolean goesBefore(int a, int b, int[] values) {
        int difference = sum(a, values) - sum(b, values);
        if (difference != 0) {
            return difference > 0;
        }
        return (a & Integer.lowestOneBit(a ^ b)) != 0;
    }

    private static int sum(int set, int[] values) {
        int sum = 0;
        for (int id = 0; id < JOBS; id++) {
            if ((set >> id & 1) == 1) {
                sum += values[id];
            }
        }
        return sum;
    }
}

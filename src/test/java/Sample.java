import java.util.stream.IntStream;

/** Markets in unlike states, made anew whenever one is asked for. */
enum Sample {
    EMPTY(0), CROWDED(0b1111111), GAPPY(0b0010101), ROOMLESS(0b0000001);

    /** Bit i is set when a job holds i. */
    final int held;

    Sample(int held) {
        this.held = held;
    }

    boolean holds(int id) {
        return id >= 0 && id < 7 && (held >> id & 1) == 1;
    }

    /** The numbers at and beyond every edge that no job holds here. */
    int[] absentNumbers() {
        return IntStream.of(Edges.everyNumber()).filter(id -> !holds(id)).toArray();
    }

    SlotMarket make() {
        return switch (this) {
            case EMPTY -> new SlotMarket(7, 3);
            case CROWDED -> crowded();
            case GAPPY -> gappy(new SlotMarket(5, 2));
            case ROOMLESS -> roomless();
        };
    }

    /** Full; 1 and 4 are not chosen; the slots in use have room for 1, 1, 0, 2 and 3. */
    private static SlotMarket crowded() {
        SlotMarket x = new SlotMarket(7, 0);
        x.setRoom(0, 1);
        x.setRoom(1, 1);
        x.setRoom(3, 2);
        x.setRoom(11, 3);
        x.bring(0, 0, 5);
        x.bring(0, 1, 5);
        x.bring(1, 3, 9);
        x.bring(2, 3, 20);
        x.bring(3, 3, 1);
        x.bring(2, 3, 9);
        x.bring(11, 11, 12);
        return x;
    }

    /** In ten calls: 1 and 3 are free again; 4 is not chosen, for 0 has its worth and a lower number. */
    static SlotMarket gappy(SlotMarket x) {
        x.setRoom(0, 3);
        x.setRoom(7, 0);
        x.setRoom(8, 1);
        x.bring(8, 8, 4);
        x.bring(0, 0, 7);
        x.bring(7, 9, 4);
        x.bring(8, 8, 20);
        x.bring(8, 8, 4);
        x.take(1);
        x.take(3);
        return x;
    }

    /** Full with one job, which no slot has room for. */
    private static SlotMarket roomless() {
        SlotMarket x = new SlotMarket(1, 0);
        x.bring(0, 11, 20);
        return x;
    }
}

/** Markets in unlike states, made anew whenever one is asked for. */
enum Sample {
    EMPTY(0, 7), CROWDED(0b1111111, 7), GAPPY(0b0010101, 5), ROOMLESS(0b0000001, 1);

    /** Bit i is set when a job holds i. */
    final int held;
    final int capacity;

    Sample(int held, int capacity) {
        this.held = held;
        this.capacity = capacity;
    }

    boolean holds(int id) {
        return id >= 0 && id < 7 && (held >> id & 1) == 1;
    }

    /** The numbers at and beyond every edge that no job holds here. */
    int[] absentNumbers() {
        return java.util.stream.IntStream.concat(
            java.util.stream.IntStream.range(0, 7).filter(id -> !holds(id)),
            java.util.stream.IntStream.of(Edges.NO_NUMBERS)).toArray();
    }

    SlotMarket make() {
        return switch (this) {
            case EMPTY -> new SlotMarket(7, 3);
            case CROWDED -> crowded();
            case GAPPY -> gappy();
            case ROOMLESS -> roomless();
        };
    }

    /** Full; 1 and 4 are not chosen; the slots in use have room for 1, 1, 0, 2 and 3. */
    private static SlotMarket crowded() {
        SlotMarket x = new SlotMarket(7, 0);
        x.setRoom(0, 1);
        x.setRoom(1, 1);
        x.setRoom(3, 2);
        x.setRoom(11, 3);
        x.bring(0, 0, 5);
        x.bring(0, 1, 5);
        x.bring(1, 3, 9);
        x.bring(2, 3, 20);
        x.bring(3, 3, 1);
        x.bring(2, 3, 9);
        x.bring(11, 11, 12);
        return x;
    }

    /** Numbers 1 and 3 are free again; 4 is not chosen, for 0 has its worth and a lower number. */
    private static SlotMarket gappy() {
        SlotMarket x = new SlotMarket(5, 2);
        x.setRoom(0, 3);
        x.setRoom(7, 0);
        x.setRoom(8, 1);
        x.bring(8, 8, 4);
        x.bring(0, 0, 7);
        x.bring(7, 9, 4);
        x.bring(8, 8, 20);
        x.bring(8, 8, 4);
        x.take(1);
        x.take(3);
        return x;
    }

    /** Full with one job, which no slot has room for. */
    private static SlotMarket roomless() {
        SlotMarket x = new SlotMarket(1, 0);
        x.bring(0, 11, 20);
        return x;
    }
}

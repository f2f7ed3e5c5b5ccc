/** Promises 9 to 11: the chosen set, its total, and which sets fit. */
public final class ChoiceTest {
    private static final Checks CHECKS = new Checks();

    public static void main(String[] args) {
        greatestTotalIsChosen();
        twoLesserJobsGoBeforeOneGreater();
        leastNumberPartsEqualTotals();
        severalTiesAtOnce();
        choiceFollowsFromThePresentAlone();
        noRoomChoosesNothing();
        roomForThreeTakesThree();
        fitsAsksForWindowsAndRooms();
        fitsRefusesNumbersNoJobHolds();
        CHECKS.finish();
    }

    private static void greatestTotalIsChosen() {
        SlotMarket x = new SlotMarket(7, 1);
        x.bring(6, 6, 4);
        x.bring(6, 6, 9);
        x.bring(6, 7, 3);
        CHECKS.due("greatest: chosen()", x.chosen(), 0b110);
        CHECKS.due("greatest: total()", x.total(), 12);
        x.bring(7, 7, 20);
        CHECKS.due("greatest, one more: chosen()", x.chosen(), 0b1010);
        CHECKS.due("greatest, one more: total()", x.total(), 29);
    }

    private static void twoLesserJobsGoBeforeOneGreater() {
        SlotMarket x = new SlotMarket(7, 0);
        x.setRoom(0, 1);
        x.setRoom(1, 1);
        x.bring(0, 1, 10);
        x.bring(0, 0, 9);
        x.bring(1, 1, 8);
        CHECKS.due("pairs: chosen()", x.chosen(), 0b011);
        x.revalue(0, 7);
        CHECKS.due("pairs, 0 least: chosen()", x.chosen(), 0b110);
        CHECKS.due("pairs, 0 least: total()", x.total(), 17);
    }

    private static void leastNumberPartsEqualTotals() {
        SlotMarket x = new SlotMarket(7, 0);
        x.setRoom(5, 2);
        for (int i = 0; i < 7; i++) {
            x.bring(5, 5, 6);
        }
        CHECKS.due("all equal: chosen()", x.chosen(), 0b11);
        x.take(0);
        CHECKS.due("all equal, 0 gone: chosen()", x.chosen(), 0b110);
        x.revalue(6, 7);
        CHECKS.due("6 worth more: chosen()", x.chosen(), 0b1000010);
        CHECKS.due("6 worth more: total()", x.total(), 13);
    }

    private static void severalTiesAtOnce() {
        // Four sets of the same worth; {0, 2} has the least number on which it differs from each other one.
        SlotMarket x = new SlotMarket(7, 0);
        x.setRoom(2, 1);
        x.setRoom(9, 1);
        x.bring(2, 2, 5);
        x.bring(2, 2, 5);
        x.bring(9, 9, 5);
        x.bring(9, 9, 5);
        CHECKS.due("two ties: chosen()", x.chosen(), 0b0101);
        x.revalue(3, 6);
        CHECKS.due("two ties, 3 worth more: chosen()", x.chosen(), 0b1001);
    }

    private static void choiceFollowsFromThePresentAlone() {
        SlotMarket x = new SlotMarket(2, 1);
        x.bring(4, 4, 5);
        x.bring(4, 4, 8);
        CHECKS.due("present: chosen()", x.chosen(), 0b10);
        x.revalue(1, 5);
        CHECKS.due("present, equal: chosen()", x.chosen(), 0b01);
        x.take(0);
        x.bring(4, 4, 5);
        CHECKS.due("present, 0 brought last: chosen()", x.chosen(), 0b01);
        x.setRoom(4, 2);
        CHECKS.due("present, more room: chosen()", x.chosen(), 0b11);
        x.setRoom(4, 1);
        CHECKS.due("present, less room: chosen()", x.chosen(), 0b01);
    }

    private static void noRoomChoosesNothing() {
        SlotMarket x = new SlotMarket(7, 0);
        x.bring(0, 11, 20);
        x.bring(3, 3, 1);
        CHECKS.due("no room: chosen()", x.chosen(), 0);
        CHECKS.due("no room: total()", x.total(), 0);
        CHECKS.due("no room: fits(0)", x.fits(0), true);
        CHECKS.due("no room: fits(1)", x.fits(1), false);
    }

    private static void roomForThreeTakesThree() {
        SlotMarket x = new SlotMarket(7, 3);
        for (int i = 0; i < 7; i++) {
            x.bring(11, 11, 20);
        }
        CHECKS.due("room 3: chosen()", x.chosen(), 0b111);
        CHECKS.due("room 3: total()", x.total(), 60);
        x.setRoom(0, 0);
        CHECKS.due("room 3, elsewhere none: chosen()", x.chosen(), 0b111);
        SlotMarket wide = new SlotMarket(7, 3);
        for (int i = 0; i < 7; i++) {
            wide.bring(0, 11, 20);
        }
        CHECKS.due("all fit: chosen()", wide.chosen(), 0b1111111);
        CHECKS.due("all fit: total()", wide.total(), 140);
    }

    private static void fitsAsksForWindowsAndRooms() {
        // The wide job must leave the slots of the narrow ones, on either side.
        SlotMarket x = new SlotMarket(7, 1);
        x.bring(3, 5, 1);
        x.bring(3, 3, 1);
        x.bring(5, 5, 1);
        x.bring(4, 4, 1);
        CHECKS.due("fits(0111)", x.fits(0b0111), true);
        CHECKS.due("fits(1011)", x.fits(0b1011), true);
        CHECKS.due("fits(1110)", x.fits(0b1110), true);
        CHECKS.due("fits(1111)", x.fits(0b1111), false);
        x.setRoom(4, 2);
        CHECKS.due("more room: fits(1111)", x.fits(0b1111), true);
        x.setRoom(3, 0);
        CHECKS.due("3 closed: fits(0010)", x.fits(0b0010), false);
        CHECKS.due("3 closed: fits(1101)", x.fits(0b1101), true);
    }

    private static void fitsRefusesNumbersNoJobHolds() {
        SlotMarket x = new SlotMarket(7, 3);
        x.bring(0, 11, 1);
        x.bring(0, 11, 1);
        x.bring(0, 11, 1);
        x.take(1);
        CHECKS.due("fits(0)", x.fits(0), true);
        CHECKS.due("fits(101)", x.fits(0b101), true);
        CHECKS.due("fits(10)", x.fits(0b10), false);
        CHECKS.due("fits(111)", x.fits(0b111), false);
        for (int bit = 3; bit < 32; bit++) {
            CHECKS.due("fits(1 << " + bit + ")", x.fits(1 << bit), false);
            CHECKS.due("fits(1 << " + bit + " | 1)", x.fits(1 << bit | 1), false);
        }
        CHECKS.due("fits(-1)", x.fits(-1), false);
    }
}

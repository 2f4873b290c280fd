/**
 * Each sentence of the document that names a boundary case, with a test of its own. What is printed
 * names the sentence in the document's words.
 */
public final class BoundariesTest {
    private static final int BAD = -1;
    private static final int FULL = -2;
    private static final int NONE = -100000;

    // Just outside, far outside, and numbers that look right to code that keeps a few bits alone.
    private static final int[] NO_PLACES = {-1, 5, 6, 7, 8, 32, 256, 65536, -256, Integer.MIN_VALUE, Integer.MAX_VALUE};
    private static final int[] NO_LINES = {-1, 7, 8, 32, 256, 65536, -256, Integer.MIN_VALUE, Integer.MAX_VALUE};
    private static final int[] NO_WHATS = {-1, -4, 76, 79, 80, 256, 65536, -256, Integer.MIN_VALUE, Integer.MAX_VALUE};
    private static final int[] NO_BALANCES = {-10, 10, 256, 65536, -256, Integer.MIN_VALUE, Integer.MAX_VALUE};
    private static final int[] NO_SIDES = {-1, 2, 3, 256, 257, 65536, Integer.MIN_VALUE, Integer.MAX_VALUE};

    private static int wrong = 0;
    private static String sentence = "";

    public static void main(String[] args) {
        newObjectHasNoLines();
        newObjectHasBalancesOfZero();
        addAnswersLeastFreeNumber();
        addIsBadForOnePlaceTwice();
        addIsBadForNoPlace();
        addIsBadForNoWhat();
        addIsFullAtSeven();
        addTestsBadBeforeFull();
        removeIsFalseForNoLine();
        changeIsFalseForNoLine();
        changeIsFalseForNoWhat();
        balanceIsFalseForNoPlace();
        balanceIsFalseOutsideNine();
        linesHasBitForEachLine();
        possibleTellsWhetherThereIsAShipment();
        leastIsNoneWithoutShipment();
        greatestIsNoneWithoutShipment();
        firstIsBadForNoLine();
        firstIsBadWithoutShipment();
        rangeIsBadForNoLine();
        rangeIsBadWithoutShipment();
        rangeIsBadForNoSide();
        uniqueTellsWhetherThereIsOnlyOne();
        leastWithIsNoneWithoutShipment();
        leastWithIsNoneForNoLine();
        worthMayTakeFourRooms();
        worthIsNoneForNoLine();
        worthIsNoneWithoutShipmentAsItIs();
        shiftedGoesBeyondNine();
        shiftedIsNoneWithoutShipmentThen();
        shiftedIsNoneForOnePlaceTwice();
        shiftedIsNoneForNoPlace();
        spareIsBadWithoutShipmentAsItIs();
        spareIsBadForOnePlaceTwice();
        spareIsBadForNoPlace();
        System.out.println(wrong == 0 ? "all answers are as due" : wrong + " answers are not as due");
        if (wrong != 0) {
            System.exit(1);
        }
    }

    private static void due(String call, int got, int want) {
        if (got != want) {
            wrong++;
            System.out.println(sentence + ": " + call + " answered " + got + ", due is " + want);
        }
    }

    private static void due(String call, boolean got, boolean want) {
        due(call, got ? 1 : 0, want ? 1 : 0);
    }

    private static int what(int room, int cost) {
        return room + 4 * (cost + 9);
    }

    /** Sets the two balances so that the amount is to go from p to q. */
    private static void ask(SupplyDesk x, int p, int q, int amount) {
        x.balance(p, amount);
        x.balance(q, -amount);
    }

    /** Lines 0, 2 and 4 of rooms 2, 3 and 3; lines 1, 3, 5 and 6 are not there. Two go from 0 to 2. */
    private static SupplyDesk withGaps() {
        SupplyDesk x = new SupplyDesk();
        x.add(0, 2, what(2, 5));
        x.add(3, 4, what(3, -9));
        x.add(0, 1, what(3, 2));
        x.add(4, 3, what(3, -9));
        x.add(1, 2, what(3, 2));
        x.remove(1);
        x.remove(3);
        ask(x, 0, 2, 2);
        return x;
    }

    private static final int[] GAPS = {1, 3, 5, 6};

    /** Seven lines between 0 and 4: four go there (room 3, costs 0 .. 3), three go back (room 1, cost 1). */
    private static SupplyDesk allSeven() {
        SupplyDesk x = new SupplyDesk();
        for (int k = 0; k < 4; k++) {
            x.add(0, 4, what(3, k));
        }
        for (int k = 4; k < 7; k++) {
            x.add(4, 0, what(1, 1));
        }
        ask(x, 0, 4, 5);
        return x;
    }

    /** As many lines from p to q as are told, each of room 3 and cost 1. */
    private static SupplyDesk bundle(int p, int q, int count) {
        SupplyDesk x = new SupplyDesk();
        for (int k = 0; k < count; k++) {
            x.add(p, q, what(3, 1));
        }
        return x;
    }

    /** Objects without a shipment, each for a reason of its own; line 0 is there in all of them. */
    private static SupplyDesk without(int reason) {
        SupplyDesk x = new SupplyDesk();
        x.add(0, 1, what(2, 3));
        switch (reason) {
            case 0: // one more than the room
                ask(x, 0, 1, 3);
                break;
            case 1: // against the line
                ask(x, 1, 0, 1);
                break;
            case 2: // no line goes there
                ask(x, 2, 3, 1);
                break;
            case 3: // the balances don't sum to 0: too much comes out
                x.balance(0, 2);
                x.balance(1, -1);
                break;
            case 4: // the balances don't sum to 0: too much goes in
                x.balance(0, 1);
                x.balance(1, -2);
                break;
            case 5: // the last place alone
                x.balance(4, -1);
                break;
            case 6: // the line that could was taken away
                x.add(0, 1, what(3, 3));
                ask(x, 0, 1, 3);
                x.remove(1);
                break;
            case 7: // the room was taken away
                ask(x, 0, 1, 1);
                x.change(0, what(0, 3));
                break;
            default: // the way stops half way
                x.add(2, 3, what(3, 1));
                ask(x, 0, 3, 1);
                break;
        }
        return x;
    }

    private static final int REASONS = 9;

    /** Every question of the object, so that two objects in the same state answer the same. */
    private static int[] answers(SupplyDesk x) {
        int[] all = new int[300];
        int i = 0;
        all[i++] = x.lines();
        all[i++] = x.possible() ? 1 : 0;
        all[i++] = x.least();
        all[i++] = x.greatest();
        all[i++] = x.unique() ? 1 : 0;
        for (int k = 0; k < 7; k++) {
            all[i++] = x.first(k);
            all[i++] = x.range(k, 0);
            all[i++] = x.range(k, 1);
            all[i++] = x.worth(k);
            for (int n = 0; n <= 3; n++) {
                all[i++] = x.leastWith(k, n);
            }
        }
        for (int p = 0; p < 5; p++) {
            for (int q = 0; q < 5; q++) {
                all[i++] = x.shifted(p, q);
                all[i++] = x.spare(p, q);
            }
        }
        return all;
    }

    private static void dueUnchanged(String call, SupplyDesk refused, SupplyDesk untouched) {
        int[] got = answers(refused);
        int[] want = answers(untouched);
        for (int i = 0; i < got.length; i++) {
            due("question " + i + " after " + call, got[i], want[i]);
        }
    }

    private static void newObjectHasNoLines() {
        sentence = "Promise 1: No lines";
        due("lines()", new SupplyDesk().lines(), 0);
        for (int k = 0; k < 7; k++) {
            SupplyDesk x = new SupplyDesk();
            due("first(" + k + ")", x.first(k), BAD);
            due("range(" + k + ", 0)", x.range(k, 0), BAD);
            due("leastWith(" + k + ", 0)", x.leastWith(k, 0), NONE);
            due("worth(" + k + ")", x.worth(k), NONE);
            due("change(" + k + ", 0)", x.change(k, 0), false);
            due("remove(" + k + ")", x.remove(k), false);
        }
        // An object that has been used must not show in one that is made later.
        SupplyDesk used = allSeven();
        due("lines() of a later object", new SupplyDesk().lines(), 0);
        due("lines() of the earlier object", used.lines(), 127);
        due("add as the first call", new SupplyDesk().add(0, 1, 0), 0);
    }

    private static void newObjectHasBalancesOfZero() {
        sentence = "Promise 1: all balances 0";
        SupplyDesk x = new SupplyDesk();
        due("possible()", x.possible(), true);
        due("least()", x.least(), 0);
        due("greatest()", x.greatest(), 0);
        due("unique()", x.unique(), true);
        for (int p = 0; p < 5; p++) {
            for (int q = 0; q < 5; q++) {
                if (p != q) {
                    SupplyDesk y = new SupplyDesk();
                    y.add(p, q, what(3, 1));
                    due("first(0) from " + p + " to " + q, y.first(0), 0);
                    due("spare(" + p + ", " + q + ")", y.spare(p, q), 3);
                    due("spare(" + q + ", " + p + ")", y.spare(q, p), 0);
                }
            }
        }
        SupplyDesk used = new SupplyDesk();
        used.balance(3, 4);
        due("possible() of a later object", new SupplyDesk().possible(), true);
    }

    private static void addAnswersLeastFreeNumber() {
        sentence = "Promise 2: answers the least number that none has";
        for (int kept = 0; kept < 127; kept++) {
            SupplyDesk x = allSeven();
            for (int k = 6; k >= 0; k--) {
                if ((kept >> k & 1) == 0) {
                    x.remove(k);
                }
            }
            int bits = kept;
            for (int k = 0; k < 7; k++) {
                if ((kept >> k & 1) == 0) {
                    due("add beside lines " + bits, x.add(1, 2, 0), k);
                    bits |= 1 << k;
                    due("lines() after it", x.lines(), bits);
                }
            }
            due("add beside lines 127", x.add(1, 2, 0), FULL);
        }
    }

    private static void addIsBadForOnePlaceTwice() {
        sentence = "Promise 2: BAD when a = b";
        SupplyDesk x = withGaps();
        for (int p = 0; p < 5; p++) {
            due("add(" + p + ", " + p + ", 0)", x.add(p, p, 0), BAD);
            due("add(" + p + ", " + p + ", 75)", x.add(p, p, 75), BAD);
        }
        dueUnchanged("add", x, withGaps());
    }

    private static void addIsBadForNoPlace() {
        sentence = "Promise 2: BAD when a or b is not 0 .. 4";
        SupplyDesk x = withGaps();
        for (int p : NO_PLACES) {
            due("add(" + p + ", 0, 75)", x.add(p, 0, 75), BAD);
            due("add(" + p + ", 4, 75)", x.add(p, 4, 75), BAD);
            due("add(0, " + p + ", 75)", x.add(0, p, 75), BAD);
            due("add(4, " + p + ", 75)", x.add(4, p, 75), BAD);
            due("add(" + p + ", " + p + ", 75)", x.add(p, p, 75), BAD);
        }
        dueUnchanged("add", x, withGaps());
        for (int a = 0; a < 5; a++) {
            for (int b = 0; b < 5; b++) {
                if (a != b) {
                    SupplyDesk y = new SupplyDesk();
                    due("add(" + a + ", " + b + ", 39)", y.add(a, b, what(3, 0)), 0);
                    ask(y, a, b, 3);
                    due("first(0) from " + a + " to " + b, y.first(0), 3);
                }
            }
        }
    }

    private static void addIsBadForNoWhat() {
        sentence = "Promise 2: BAD when what is not 0 .. 75";
        SupplyDesk x = withGaps();
        for (int w : NO_WHATS) {
            due("add(0, 1, " + w + ")", x.add(0, 1, w), BAD);
        }
        dueUnchanged("add", x, withGaps());
        for (int w = 0; w <= 75; w++) {
            SupplyDesk y = new SupplyDesk();
            due("add(4, 0, " + w + ")", y.add(4, 0, w), 0);
            for (int n = 0; n <= 4; n++) {
                ask(y, 4, 0, n);
                due("least() of " + n + " over " + w, y.least(), n <= w % 4 ? n * (w / 4 - 9) : NONE);
            }
        }
    }

    private static void addIsFullAtSeven() {
        sentence = "Promise 2: FULL when there are seven";
        SupplyDesk x = bundle(0, 1, 6);
        due("add of the seventh", x.add(1, 0, what(3, 0)), 6);
        due("add of an eighth", x.add(1, 0, what(3, 0)), FULL);
        due("add of a ninth", x.add(2, 3, what(3, 0)), FULL);
        SupplyDesk untouched = bundle(0, 1, 6);
        untouched.add(1, 0, what(3, 0));
        dueUnchanged("FULL", x, untouched);
        due("remove(6)", x.remove(6), true);
        due("add beside six", x.add(1, 0, 0), 6);
        due("add beside seven", x.add(1, 0, 0), FULL);
        due("remove(0)", x.remove(0), true);
        due("add beside six", x.add(1, 0, 0), 0);
        due("add beside seven", x.add(1, 0, 0), FULL);
    }

    private static void addTestsBadBeforeFull() {
        sentence = "Promise 2: Tested in this order";
        SupplyDesk x = allSeven();
        for (int p = 0; p < 5; p++) {
            due("add(" + p + ", " + p + ", 0) beside seven", x.add(p, p, 0), BAD);
        }
        for (int p : NO_PLACES) {
            due("add(" + p + ", 0, 0) beside seven", x.add(p, 0, 0), BAD);
            due("add(0, " + p + ", 0) beside seven", x.add(0, p, 0), BAD);
        }
        for (int w : NO_WHATS) {
            due("add(0, 1, " + w + ") beside seven", x.add(0, 1, w), BAD);
        }
        due("add(0, 1, 0) beside seven", x.add(0, 1, 0), FULL);
        due("add(0, 1, 75) beside seven", x.add(0, 1, 75), FULL);
        dueUnchanged("add", x, allSeven());
    }

    private static void removeIsFalseForNoLine() {
        sentence = "Promise 3: false when there is none";
        SupplyDesk x = withGaps();
        for (int k : GAPS) {
            due("remove(" + k + ")", x.remove(k), false);
        }
        for (int k : NO_LINES) {
            due("remove(" + k + ")", x.remove(k), false);
        }
        dueUnchanged("remove", x, withGaps());
        SupplyDesk y = allSeven();
        for (int k = 0; k < 7; k++) {
            due("remove(" + k + ") of seven", y.remove(k), true);
            due("lines() after it", y.lines(), 127 & -2 << k);
            due("remove(" + k + ") again", y.remove(k), false);
            due("lines() after it", y.lines(), 127 & -2 << k);
        }
    }

    private static void changeIsFalseForNoLine() {
        sentence = "Promise 4: false, changing nothing, when there is none";
        SupplyDesk x = withGaps();
        for (int k : GAPS) {
            due("change(" + k + ", 3)", x.change(k, 3), false);
        }
        for (int k : NO_LINES) {
            due("change(" + k + ", 3)", x.change(k, 3), false);
        }
        dueUnchanged("change", x, withGaps());
        // A refused change must not show in a line that takes the number later either.
        SupplyDesk y = withGaps();
        SupplyDesk untouched = withGaps();
        y.change(1, what(3, -9));
        due("add after a refused change", y.add(3, 4, what(1, 1)), 1);
        untouched.add(3, 4, what(1, 1));
        dueUnchanged("change and add", y, untouched);
    }

    private static void changeIsFalseForNoWhat() {
        sentence = "Promise 4: false, changing nothing, when what is not 0 .. 75";
        SupplyDesk x = withGaps();
        for (int w : NO_WHATS) {
            due("change(0, " + w + ")", x.change(0, w), false);
            due("change(4, " + w + ")", x.change(4, w), false);
            due("change(1, " + w + ")", x.change(1, w), false);
        }
        dueUnchanged("change", x, withGaps());
        SupplyDesk y = new SupplyDesk();
        y.add(0, 4, what(1, 1));
        for (int w = 0; w <= 75; w++) {
            due("change(0, " + w + ")", y.change(0, w), true);
            ask(y, 0, 4, w % 4);
            due("least() over " + w, y.least(), w % 4 * (w / 4 - 9));
            due("spare(0, 4) over " + w, y.spare(0, 4), 0);
        }
        due("lines()", y.lines(), 1);
    }

    private static void balanceIsFalseForNoPlace() {
        sentence = "Promise 5: false, changing nothing, when p is not 0 .. 4";
        SupplyDesk x = withGaps();
        for (int p : NO_PLACES) {
            due("balance(" + p + ", 0)", x.balance(p, 0), false);
            due("balance(" + p + ", 9)", x.balance(p, 9), false);
        }
        dueUnchanged("balance", x, withGaps());
        for (int p = 0; p < 5; p++) {
            SupplyDesk y = new SupplyDesk();
            due("balance(" + p + ", 1)", y.balance(p, 1), true);
            due("possible() with it", y.possible(), false);
            due("balance(" + p + ", 0)", y.balance(p, 0), true);
            due("possible() without it", y.possible(), true);
        }
    }

    private static void balanceIsFalseOutsideNine() {
        sentence = "Promise 5: false, changing nothing, when b is not -9 .. 9";
        SupplyDesk x = withGaps();
        for (int p = 0; p < 5; p++) {
            for (int b : NO_BALANCES) {
                due("balance(" + p + ", " + b + ")", x.balance(p, b), false);
            }
        }
        dueUnchanged("balance", x, withGaps());
        SupplyDesk y = bundle(3, 1, 3);
        SupplyDesk z = bundle(1, 3, 3);
        for (int b = -9; b <= 9; b++) {
            due("balance(3, " + b + ")", y.balance(3, b), true);
            due("balance(1, " + -b + ")", y.balance(1, -b), true);
            due("least() of " + b, y.least(), b < 0 ? NONE : b);
            ask(z, 3, 1, b);
            due("least() of " + b + " the other way", z.least(), b > 0 ? NONE : -b);
        }
    }

    private static void linesHasBitForEachLine() {
        sentence = "Promise 6: bit k for line k";
        for (int bits = 0; bits < 128; bits++) {
            SupplyDesk x = allSeven();
            for (int k = 0; k < 7; k++) {
                if ((bits >> k & 1) == 0) {
                    x.remove(k);
                }
            }
            due("lines()", x.lines(), bits);
        }
        // A line without room is a line nevertheless.
        SupplyDesk y = new SupplyDesk();
        for (int k = 0; k < 7; k++) {
            y.add(0, 1, 0);
            due("lines() with room 0", y.lines(), (2 << k) - 1);
        }
    }

    private static void possibleTellsWhetherThereIsAShipment() {
        sentence = "Promise 7: Whether there is a shipment";
        for (int reason = 0; reason < REASONS; reason++) {
            due("possible() of reason " + reason, without(reason).possible(), false);
        }
        for (int room = 0; room <= 3; room++) {
            SupplyDesk x = new SupplyDesk();
            x.add(2, 4, what(room, 9));
            for (int n = -9; n <= 9; n++) {
                ask(x, 2, 4, n);
                due("possible() of " + n + " over room " + room, x.possible(), n >= 0 && n <= room);
            }
        }
        SupplyDesk y = new SupplyDesk();
        due("possible() of nothing", y.possible(), true);
        for (int p = 0; p < 5; p++) {
            y.balance(p, p == 4 ? -8 : 2);
        }
        due("possible() without lines, all balances set", y.possible(), false);
        for (int p = 0; p < 4; p++) {
            y.add(p, 4, what(2, 0));
        }
        due("possible() with all lines filled", y.possible(), true);
        y.change(3, what(1, 0));
        due("possible() with one room less", y.possible(), false);
    }

    private static void leastIsNoneWithoutShipment() {
        sentence = "Promise 8: NONE when there is none";
        for (int reason = 0; reason < REASONS; reason++) {
            due("least() of reason " + reason, without(reason).least(), NONE);
        }
        // Costs that could be taken for a refusal, and the least that there can be.
        SupplyDesk x = new SupplyDesk();
        x.add(0, 1, what(1, -1));
        ask(x, 0, 1, 1);
        due("least() of -1", x.least(), -1);
        x.change(0, what(1, -2));
        due("least() of -2", x.least(), -2);
        x.change(0, what(1, 0));
        due("least() of 0", x.least(), 0);
        due("least() of seven full lines", rounds(-9).least(), -189);
        ask(x, 0, 1, 2);
        due("least() when there is none any more", x.least(), NONE);
        ask(x, 0, 1, 1);
        due("least() when there is one again", x.least(), 0);
    }

    private static void greatestIsNoneWithoutShipment() {
        sentence = "Promise 9: NONE when there is none";
        for (int reason = 0; reason < REASONS; reason++) {
            due("greatest() of reason " + reason, without(reason).greatest(), NONE);
        }
        SupplyDesk x = new SupplyDesk();
        x.add(0, 1, what(1, -1));
        ask(x, 0, 1, 1);
        due("greatest() of -1", x.greatest(), -1);
        x.change(0, what(1, -9));
        due("greatest() of -9", x.greatest(), -9);
        x.change(0, what(1, 0));
        due("greatest() of 0", x.greatest(), 0);
        due("greatest() of seven full lines", rounds(9).greatest(), 189);
        ask(x, 0, 1, 2);
        due("greatest() when there is none any more", x.greatest(), NONE);
        ask(x, 0, 1, 1);
        due("greatest() when there is one again", x.greatest(), 0);
    }

    /** A ring of all places and one of two: every line can be full at once. */
    private static SupplyDesk rounds(int cost) {
        SupplyDesk x = new SupplyDesk();
        for (int p = 0; p < 5; p++) {
            x.add(p, (p + 1) % 5, what(3, cost));
        }
        x.add(0, 4, what(3, cost));
        x.add(4, 0, what(3, cost));
        return x;
    }

    private static void firstIsBadForNoLine() {
        sentence = "Promise 10: BAD when there is no line k";
        SupplyDesk x = withGaps();
        for (int k : GAPS) {
            due("first(" + k + ")", x.first(k), BAD);
        }
        for (int k : NO_LINES) {
            due("first(" + k + ")", x.first(k), BAD);
        }
        due("first(0)", x.first(0), 0);
        due("first(2)", x.first(2), 2);
        due("first(4)", x.first(4), 2);
        SupplyDesk y = allSeven();
        int[] want = {3, 2, 0, 0, 0, 0, 0};
        for (int k = 0; k < 7; k++) {
            due("first(" + k + ") of seven", y.first(k), want[k]);
        }
    }

    private static void firstIsBadWithoutShipment() {
        sentence = "Promise 10: BAD when there is no shipment";
        for (int reason = 0; reason < REASONS; reason++) {
            due("first(0) of reason " + reason, without(reason).first(0), BAD);
            due("first(5) of reason " + reason, without(reason).first(5), BAD);
        }
        SupplyDesk x = withGaps();
        due("first(2)", x.first(2), 2);
        x.balance(3, 1);
        due("first(2) when there is none any more", x.first(2), BAD);
        x.balance(3, 0);
        due("first(2) when there is one again", x.first(2), 2);
    }

    private static void rangeIsBadForNoLine() {
        sentence = "Promise 11: BAD when there is no line k";
        SupplyDesk x = withGaps();
        for (int side = 0; side <= 1; side++) {
            for (int k : GAPS) {
                due("range(" + k + ", " + side + ")", x.range(k, side), BAD);
            }
            for (int k : NO_LINES) {
                due("range(" + k + ", " + side + ")", x.range(k, side), BAD);
            }
            due("range(2, " + side + ")", x.range(2, side), 2);
        }
        SupplyDesk y = allSeven();
        // Back over line 6 for -2: a first one gains over line 1, two more are for nothing over line 2.
        y.change(6, what(3, -2));
        int[] low = {3, 3, 0, 0, 0, 0, 1};
        int[] high = {3, 3, 2, 0, 0, 0, 3};
        for (int k = 0; k < 7; k++) {
            due("range(" + k + ", 0) of seven", y.range(k, 0), low[k]);
            due("range(" + k + ", 1) of seven", y.range(k, 1), high[k]);
        }
    }

    private static void rangeIsBadWithoutShipment() {
        sentence = "Promise 11: BAD when there is no shipment";
        for (int reason = 0; reason < REASONS; reason++) {
            due("range(0, 0) of reason " + reason, without(reason).range(0, 0), BAD);
            due("range(0, 1) of reason " + reason, without(reason).range(0, 1), BAD);
        }
        SupplyDesk x = withGaps();
        due("range(2, 1)", x.range(2, 1), 2);
        x.balance(3, 1);
        due("range(2, 0) when there is none any more", x.range(2, 0), BAD);
        due("range(2, 1) when there is none any more", x.range(2, 1), BAD);
        x.balance(3, 0);
        due("range(2, 0) when there is one again", x.range(2, 0), 2);
    }

    private static void rangeIsBadForNoSide() {
        sentence = "Promise 11: BAD when what is not 0 or 1";
        SupplyDesk x = withGaps();
        x.change(0, what(2, 4));
        for (int side : NO_SIDES) {
            due("range(0, " + side + ")", x.range(0, side), BAD);
            due("range(1, " + side + ")", x.range(1, side), BAD);
            due("range(0, " + side + ") without a shipment", without(0).range(0, side), BAD);
        }
        due("range(0, 0)", x.range(0, 0), 0);
        due("range(0, 1)", x.range(0, 1), 2);
    }

    private static void uniqueTellsWhetherThereIsOnlyOne() {
        sentence = "Promise 12: Whether there is only one best shipment";
        due("unique() of nothing", new SupplyDesk().unique(), true);
        for (int reason = 0; reason < REASONS; reason++) {
            due("unique() of reason " + reason, without(reason).unique(), false);
        }
        SupplyDesk x = new SupplyDesk();
        x.add(0, 1, what(1, 2));
        x.add(0, 1, what(1, 2));
        due("unique() with nothing to send", x.unique(), true);
        ask(x, 0, 1, 1);
        due("unique() of two", x.unique(), false);
        ask(x, 0, 1, 2);
        due("unique() with both full", x.unique(), true);
        ask(x, 0, 1, 1);
        x.add(0, 1, what(1, 1));
        due("unique() of one better than two, found first", x.unique(), true);
        x.change(0, what(1, 1));
        x.change(2, what(1, 2));
        due("unique() of one better than two, found last", x.unique(), true);
        x.change(2, what(1, 1));
        due("unique() of two with a worse one between", x.unique(), false);
        x.change(1, what(1, 1));
        due("unique() of three", x.unique(), false);
        x.change(1, 0);
        x.change(2, 0);
        due("unique() with two lines of room 0", x.unique(), true);
        x.balance(4, 1);
        due("unique() of one when there is none any more", x.unique(), false);
        x.balance(4, 0);
        due("unique() when there is one again", x.unique(), true);
        // A ring for nothing gives other shipments at the same cost.
        x.add(2, 3, what(1, 5));
        due("unique() with half a ring", x.unique(), true);
        x.add(3, 2, what(1, -5));
        due("unique() with a ring for nothing", x.unique(), false);
        x.balance(4, 1);
        due("unique() of many when there is none any more", x.unique(), false);
    }

    private static void leastWithIsNoneWithoutShipment() {
        sentence = "Promise 13: NONE when there is none";
        for (int reason = 0; reason < REASONS; reason++) {
            for (int n = 0; n <= 4; n++) {
                due("leastWith(0, " + n + ") of reason " + reason, without(reason).leastWith(0, n), NONE);
            }
        }
        SupplyDesk x = new SupplyDesk();
        x.add(0, 1, what(1, -1));
        x.add(0, 1, what(3, -9));
        x.add(0, 1, what(3, -9));
        for (int room = 0; room <= 3; room++) {
            x.change(0, what(room, -1));
            ask(x, 0, 1, 5);
            for (int n = -2; n <= 5; n++) {
                int want = n >= 0 && n <= room ? -n - 9 * (5 - n) : NONE;
                due("leastWith(0, " + n + ") with room " + room, x.leastWith(0, n), want);
            }
        }
        int[] noNumbers = {256, 65536, -256, Integer.MIN_VALUE, Integer.MAX_VALUE};
        for (int n : noNumbers) {
            due("leastWith(0, " + n + ")", x.leastWith(0, n), NONE);
        }
        // A number within the room that no shipment has, though there are shipments.
        ask(x, 0, 1, 2);
        due("leastWith(1, 2) of 2", x.leastWith(1, 2), -18);
        due("leastWith(1, 3) of 2", x.leastWith(1, 3), NONE);
        ask(x, 0, 1, 7);
        due("leastWith(1, 0) of 7", x.leastWith(1, 0), NONE);
        due("leastWith(1, 1) of 7", x.leastWith(1, 1), -39);
    }

    private static void leastWithIsNoneForNoLine() {
        sentence = "Promise 13: NONE when there is no line k";
        SupplyDesk x = withGaps();
        for (int n = -1; n <= 4; n++) {
            for (int k : GAPS) {
                due("leastWith(" + k + ", " + n + ")", x.leastWith(k, n), NONE);
            }
            for (int k : NO_LINES) {
                due("leastWith(" + k + ", " + n + ")", x.leastWith(k, n), NONE);
            }
        }
        due("leastWith(0, 0)", x.leastWith(0, 0), 8);
        due("leastWith(4, 2)", x.leastWith(4, 2), 8);
        SupplyDesk y = allSeven();
        for (int k = 4; k < 7; k++) {
            due("leastWith(" + k + ", 0) of seven", y.leastWith(k, 0), 2);
            due("leastWith(" + k + ", 1) of seven", y.leastWith(k, 1), 4);
        }
    }

    private static void worthMayTakeFourRooms() {
        sentence = "Promise 14: (perhaps 4)";
        for (int room = 0; room <= 3; room++) {
            for (int k = 0; k < 7; k++) {
                SupplyDesk x = bundle(2, 3, 7);
                for (int other = 0; other < 7; other++) {
                    x.change(other, what(3, 9));
                }
                x.change(k, what(room, -9));
                ask(x, 2, 3, room + 1);
                due("worth(" + k + ") with room " + room, x.worth(k), 18);
                due("leastWith(" + k + ", room + 1) after it", x.leastWith(k, room + 1), NONE);
                ask(x, 2, 3, room);
                due("worth(" + k + ") with all of it sent", x.worth(k), 0);
                // One more room is counted and no second one, although many go the dear way.
                ask(x, 2, 3, 9);
                due("worth(" + k + ") of 9 with room " + room, x.worth(k), 18);
            }
        }
        // The fourth room is there for the question alone.
        SupplyDesk y = new SupplyDesk();
        y.add(0, 1, what(3, 1));
        y.add(0, 1, what(3, 2));
        y.add(0, 1, what(3, 2));
        ask(y, 0, 1, 8);
        due("worth(0) of 8", y.worth(0), 1);
        due("worth(1) of 8", y.worth(1), 0);
        due("least() after it", y.least(), 13);
        due("spare(0, 1) after it", y.spare(0, 1), 1);
    }

    private static void worthIsNoneForNoLine() {
        sentence = "Promise 14: NONE when there is no line k";
        SupplyDesk x = withGaps();
        for (int k : GAPS) {
            due("worth(" + k + ")", x.worth(k), NONE);
        }
        for (int k : NO_LINES) {
            due("worth(" + k + ")", x.worth(k), NONE);
        }
        due("worth(0)", x.worth(0), 0);
        due("worth(4)", x.worth(4), 0);
        SupplyDesk y = allSeven();
        for (int k = 0; k < 7; k++) {
            due("worth(" + k + ") of seven", y.worth(k), k == 0 ? 1 : 0);
        }
    }

    private static void worthIsNoneWithoutShipmentAsItIs() {
        sentence = "Promise 14: NONE when there is no shipment (as it is)";
        for (int reason = 0; reason < REASONS; reason++) {
            due("worth(0) of reason " + reason, without(reason).worth(0), NONE);
        }
        // With one more room there would be a shipment; as it is there is none.
        for (int room = 0; room <= 3; room++) {
            SupplyDesk x = new SupplyDesk();
            x.add(0, 1, what(room, -9));
            ask(x, 0, 1, room + 1);
            due("worth(0), one short of " + (room + 1), x.worth(0), NONE);
            ask(x, 0, 1, room);
            due("worth(0), not short", x.worth(0), 0);
        }
    }

    private static void shiftedGoesBeyondNine() {
        sentence = "Promise 15: (beyond 9 too)";
        for (int p = 0; p < 5; p++) {
            for (int q = 0; q < 5; q++) {
                if (p != q) {
                    SupplyDesk x = bundle(p, q, 7);
                    ask(x, p, q, 8);
                    due("shifted to 9 and -9", x.shifted(p, q), 9);
                    ask(x, p, q, 9);
                    due("shifted to 10 and -10", x.shifted(p, q), 10);
                    due("shifted back to 8 and -8", x.shifted(q, p), 8);
                    due("least() after it", x.least(), 9);
                    due("balance 10 nevertheless", x.balance(p, 10), false);
                }
            }
        }
        // Only one of the two goes beyond.
        SupplyDesk y = bundle(0, 1, 4);
        y.add(0, 2, what(3, 5));
        y.balance(0, 9);
        y.balance(1, -7);
        y.balance(2, -2);
        due("shifted(0, 2) to 10 and -3", y.shifted(0, 2), 22);
        SupplyDesk z = bundle(1, 0, 4);
        z.add(2, 0, what(3, 5));
        z.balance(0, -9);
        z.balance(1, 7);
        z.balance(2, 2);
        due("shifted(2, 0) to 3 and -10", z.shifted(2, 0), 22);
    }

    private static void shiftedIsNoneWithoutShipmentThen() {
        sentence = "Promise 15: NONE when there is no shipment then";
        for (int room = 0; room <= 3; room++) {
            SupplyDesk x = new SupplyDesk();
            x.add(3, 2, what(room, -1));
            for (int n = -2; n <= 5; n++) {
                ask(x, 3, 2, n);
                due("shifted(3, 2) of " + n + " over room " + room, x.shifted(3, 2), n >= -1 && n < room ? -n - 1 : NONE);
                due("shifted(2, 3) of " + n + " over room " + room, x.shifted(2, 3), n >= 1 && n <= room + 1 ? 1 - n : NONE);
                due("shifted(3, 4) of " + n + " over room " + room, x.shifted(3, 4), NONE);
                due("shifted(0, 1) of " + n + " over room " + room, x.shifted(0, 1), NONE);
            }
        }
        SupplyDesk y = bundle(0, 1, 3);
        ask(y, 0, 1, 9);
        due("shifted(0, 1) beyond all rooms", y.shifted(0, 1), NONE);
        // The balances sum to 1, and a shift leaves their sum as it is.
        for (int p = 0; p < 5; p++) {
            for (int q = 0; q < 5; q++) {
                due("shifted(" + p + ", " + q + ") of reason 3", without(3).shifted(p, q), NONE);
            }
        }
    }

    private static void shiftedIsNoneForOnePlaceTwice() {
        sentence = "Promise 15: NONE when p = q";
        SupplyDesk x = rounds(-9);
        for (int p = 0; p < 5; p++) {
            due("shifted(" + p + ", " + p + ")", x.shifted(p, p), NONE);
        }
        due("least() after it", x.least(), -189);
    }

    private static void shiftedIsNoneForNoPlace() {
        sentence = "Promise 15: NONE when one is not 0 .. 4";
        SupplyDesk x = rounds(-9);
        for (int p : NO_PLACES) {
            due("shifted(" + p + ", 0)", x.shifted(p, 0), NONE);
            due("shifted(" + p + ", 4)", x.shifted(p, 4), NONE);
            due("shifted(0, " + p + ")", x.shifted(0, p), NONE);
            due("shifted(4, " + p + ")", x.shifted(4, p), NONE);
            due("shifted(" + p + ", " + p + ")", x.shifted(p, p), NONE);
        }
        dueUnchanged("shifted", x, rounds(-9));
        for (int p = 0; p < 5; p++) {
            for (int q = 0; q < 5; q++) {
                if (p != q) {
                    due("shifted(" + p + ", " + q + ")", bundle(p, q, 1).shifted(p, q), 1);
                }
            }
        }
    }

    private static void spareIsBadWithoutShipmentAsItIs() {
        sentence = "Promise 16: BAD when there is none as it is";
        for (int reason = 0; reason < REASONS; reason++) {
            due("spare(0, 1) of reason " + reason, without(reason).spare(0, 1), BAD);
            due("spare(1, 0) of reason " + reason, without(reason).spare(1, 0), BAD);
            due("spare(2, 3) of reason " + reason, without(reason).spare(2, 3), BAD);
        }
        for (int room = 0; room <= 3; room++) {
            SupplyDesk x = new SupplyDesk();
            x.add(3, 2, what(room, 4));
            for (int n = -3; n <= 5; n++) {
                ask(x, 3, 2, n);
                boolean some = n >= 0 && n <= room;
                due("spare(3, 2) of " + n + " over room " + room, x.spare(3, 2), some ? room - n : BAD);
                due("spare(2, 3) of " + n + " over room " + room, x.spare(2, 3), some ? n : BAD);
                due("spare(3, 4) of " + n + " over room " + room, x.spare(3, 4), some ? 0 : BAD);
            }
        }
        due("spare(0, 1) of nothing", new SupplyDesk().spare(0, 1), 0);
        // The balance that would be may be beyond 9 here as well.
        SupplyDesk y = bundle(4, 0, 7);
        ask(y, 4, 0, 9);
        due("spare(4, 0) beyond 9", y.spare(4, 0), 12);
        due("spare(0, 4) back", y.spare(0, 4), 9);
    }

    private static void spareIsBadForOnePlaceTwice() {
        sentence = "Promise 16: BAD when p = q";
        SupplyDesk x = rounds(-9);
        for (int p = 0; p < 5; p++) {
            due("spare(" + p + ", " + p + ")", x.spare(p, p), BAD);
            due("spare(" + p + ", " + p + ") of nothing", new SupplyDesk().spare(p, p), BAD);
        }
        dueUnchanged("spare", x, rounds(-9));
    }

    private static void spareIsBadForNoPlace() {
        sentence = "Promise 16: BAD when one is not 0 .. 4";
        SupplyDesk x = rounds(-9);
        for (int p : NO_PLACES) {
            due("spare(" + p + ", 0)", x.spare(p, 0), BAD);
            due("spare(" + p + ", 4)", x.spare(p, 4), BAD);
            due("spare(0, " + p + ")", x.spare(0, p), BAD);
            due("spare(4, " + p + ")", x.spare(4, p), BAD);
            due("spare(" + p + ", " + p + ")", x.spare(p, p), BAD);
        }
        dueUnchanged("spare", x, rounds(-9));
        for (int p = 0; p < 5; p++) {
            for (int q = 0; q < 5; q++) {
                if (p != q) {
                    due("spare(" + p + ", " + q + ")", bundle(p, q, 2).spare(p, q), 6);
                }
            }
        }
    }
}

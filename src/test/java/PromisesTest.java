/** Each promise of the document by hand: ordinary inputs, the edges it names, and wrong inputs. */
public final class PromisesTest {
    private static final int BAD = -1;
    private static final int FULL = -2;
    private static final int NONE = -100000;
    private static final int LOW = Integer.MIN_VALUE;
    private static final int HIGH = Integer.MAX_VALUE;

    private static int wrong = 0;
    private static String promise = "";

    public static void main(String[] args) {
        constants();
        newObject();
        addAnswersNumbers();
        addRefuses();
        addReadsWhat();
        remove();
        change();
        balance();
        lines();
        possible();
        least();
        greatest();
        first();
        firstFollowsLineNumbers();
        range();
        unique();
        leastWith();
        worth();
        shifted();
        spare();
        questionsChangeNothing();
        answersDoNotLinger();
        System.out.println(wrong == 0 ? "all answers are as due" : wrong + " answers are not as due");
        if (wrong != 0) {
            System.exit(1);
        }
    }

    private static void due(String call, int got, int want) {
        if (got != want) {
            wrong++;
            System.out.println(promise + ": " + call + " answered " + got + ", due is " + want);
        }
    }

    private static void due(String call, boolean got, boolean want) {
        due(call, got ? 1 : 0, want ? 1 : 0);
    }

    private static int what(int room, int cost) {
        return room + 4 * (cost + 9);
    }

    /** Two ways from 0 to 2: straight (line 0, room 2, cost 5) or over 1 (lines 1 and 2, room 3, cost 2 each). */
    private static SupplyDesk twoWays(int amount) {
        SupplyDesk x = new SupplyDesk();
        x.add(0, 2, what(2, 5));
        x.add(0, 1, what(3, 2));
        x.add(1, 2, what(3, 2));
        x.balance(0, amount);
        x.balance(2, -amount);
        return x;
    }

    /** Like twoWays, but both ways cost 4 a piece. */
    private static SupplyDesk equalWays(int amount) {
        SupplyDesk x = twoWays(amount);
        x.change(0, what(2, 4));
        return x;
    }

    /** No way at all: one piece is wanted, and no line goes there. */
    private static SupplyDesk noWay() {
        SupplyDesk x = new SupplyDesk();
        x.add(0, 1, what(3, 1));
        x.balance(0, 1);
        x.balance(2, -1);
        return x;
    }

    private static void constants() {
        promise = "face";
        due("BAD", SupplyDesk.BAD, BAD);
        due("FULL", SupplyDesk.FULL, FULL);
        due("NONE", SupplyDesk.NONE, NONE);
    }

    private static void newObject() {
        promise = "promise 1";
        SupplyDesk used = twoWays(1);
        SupplyDesk x = new SupplyDesk();
        due("lines()", x.lines(), 0);
        due("possible()", x.possible(), true);
        due("least()", x.least(), 0);
        due("greatest()", x.greatest(), 0);
        due("unique()", x.unique(), true);
        due("lines() of an older object", used.lines(), 7);
        due("least() of an older object", used.least(), 4);
        for (int p = 0; p < 5; p++) {
            x.balance(p, 0);
            due("possible() with balance " + p + " set to 0", x.possible(), true);
        }
    }

    private static void addAnswersNumbers() {
        promise = "promise 2";
        SupplyDesk x = new SupplyDesk();
        for (int k = 0; k < 7; k++) {
            due("add number " + k, x.add(k % 5, (k + 1) % 5, what(1, k)), k);
        }
        due("add of an eighth", x.add(0, 1, 0), FULL);
        due("lines() after FULL", x.lines(), 127);
        x.remove(5);
        x.remove(2);
        due("add after remove(5), remove(2)", x.add(4, 0, 75), 2);
        due("add after that", x.add(4, 0, 0), 5);
        due("add when full again", x.add(4, 0, 0), FULL);
    }

    private static void addRefuses() {
        promise = "promise 2";
        SupplyDesk x = new SupplyDesk();
        int[] noPlaces = {-1, 5, LOW, HIGH};
        int[] noWhats = {-1, 76, LOW, HIGH};
        for (int round = 0; round < 2; round++) {
            for (int i = 0; i < 4; i++) {
                due("add(" + noPlaces[i] + ", 0, 0)", x.add(noPlaces[i], 0, 0), BAD);
                due("add(0, " + noPlaces[i] + ", 0)", x.add(0, noPlaces[i], 0), BAD);
                due("add(0, 1, " + noWhats[i] + ")", x.add(0, 1, noWhats[i]), BAD);
            }
            for (int p = 0; p < 5; p++) {
                due("add(" + p + ", " + p + ", 0)", x.add(p, p, 0), BAD);
            }
            due("lines() after BAD", x.lines(), round == 0 ? 0 : 127);
            // The second round finds seven lines: BAD is tested before FULL.
            for (int k = 0; k < 7; k++) {
                x.add(3, 4, 1);
            }
        }
    }

    private static void addReadsWhat() {
        promise = "promise 2";
        for (int room = 0; room <= 3; room++) {
            for (int cost = -9; cost <= 9; cost++) {
                SupplyDesk x = new SupplyDesk();
                due("add", x.add(3, 1, what(room, cost)), 0);
                for (int n = 1; n <= 4; n++) {
                    x.balance(3, n);
                    x.balance(1, -n);
                    due(n + " over room " + room + ", cost " + cost, x.least(), n <= room ? n * cost : NONE);
                }
                x.balance(3, -1);
                x.balance(1, 1);
                due("least() against the line", x.least(), NONE);
            }
        }
    }

    private static void remove() {
        promise = "promise 3";
        SupplyDesk x = twoWays(2);
        int[] noLines = {-1, 3, 6, 7, LOW, HIGH};
        for (int k : noLines) {
            due("remove(" + k + ")", x.remove(k), false);
        }
        due("lines()", x.lines(), 7);
        due("remove(1)", x.remove(1), true);
        due("remove(1) again", x.remove(1), false);
        due("lines()", x.lines(), 5);
        due("least() without line 1", x.least(), 10);
        due("first(1)", x.first(1), BAD);
        due("add(0, 1, ..)", x.add(0, 1, what(1, -3)), 1);
        due("least() with another line 1", x.least(), 4);
        due("remove(0)", x.remove(0), true);
        due("least() without line 0", x.least(), NONE);
        x.balance(0, 0);
        x.balance(2, 0);
        due("remove(2)", x.remove(2), true);
        due("remove(1)", x.remove(1), true);
        due("lines()", x.lines(), 0);
        due("least()", x.least(), 0);
        due("unique()", x.unique(), true);
    }

    private static void change() {
        promise = "promise 4";
        SupplyDesk x = twoWays(2);
        int[] noLines = {-1, 3, 6, 7, LOW, HIGH};
        for (int k : noLines) {
            due("change(" + k + ", 0)", x.change(k, 0), false);
        }
        int[] noWhats = {-1, 76, LOW, HIGH};
        for (int w : noWhats) {
            due("change(0, " + w + ")", x.change(0, w), false);
        }
        due("lines()", x.lines(), 7);
        due("least() after false", x.least(), 8);
        due("greatest() after false", x.greatest(), 10);
        due("change(0, room 1, cost 3)", x.change(0, what(1, 3)), true);
        due("least()", x.least(), 7);
        due("lines()", x.lines(), 7);
        due("change(0, 0)", x.change(0, 0), true);
        due("range(0, 1) with room 0", x.range(0, 1), 0);
        due("change(0, 75)", x.change(0, 75), true);
        due("leastWith(0, 2) with cost 9", x.leastWith(0, 2), 18);
        x.remove(0);
        due("change(0, 5) after remove(0)", x.change(0, 5), false);
        due("lines()", x.lines(), 6);
    }

    private static void balance() {
        promise = "promise 5";
        SupplyDesk x = twoWays(2);
        int[] noPlaces = {-1, 5, LOW, HIGH};
        for (int p : noPlaces) {
            due("balance(" + p + ", 0)", x.balance(p, 0), false);
        }
        int[] noBalances = {-10, 10, LOW, HIGH};
        for (int b : noBalances) {
            due("balance(0, " + b + ")", x.balance(0, b), false);
        }
        due("least() after false", x.least(), 8);
        for (int p = 0; p < 5; p++) {
            due("balance(" + p + ", 9)", x.balance(p, 9), true);
            due("balance(" + p + ", -9)", x.balance(p, -9), true);
            due("balance(" + p + ", 0)", x.balance(p, 0), true);
        }
        due("least() with all 0", x.least(), 0);
        for (int p = 0; p < 5; p++) {
            for (int q = 0; q < 5; q++) {
                if (p != q) {
                    balanceBetween(p, q);
                }
            }
        }
    }

    private static void balanceBetween(int p, int q) {
        SupplyDesk x = new SupplyDesk();
        for (int k = 0; k < 3; k++) {
            x.add(p, q, what(3, 1));
        }
        due("balance(p, 9)", x.balance(p, 9), true);
        due("possible() with p alone", x.possible(), false);
        due("balance(q, -9)", x.balance(q, -9), true);
        due("least() of 9 from " + p + " to " + q, x.least(), 9);
        due("balance(p, 8)", x.balance(p, 8), true);
        due("possible() with 8 and -9", x.possible(), false);
    }

    private static void lines() {
        promise = "promise 6";
        SupplyDesk x = new SupplyDesk();
        int bits = 0;
        for (int k = 0; k < 7; k++) {
            due("lines()", x.lines(), bits);
            x.add(0, 1, 0);
            bits |= 1 << k;
        }
        due("lines()", x.lines(), 127);
        for (int k = 0; k < 7; k += 2) {
            x.remove(k);
            bits &= ~(1 << k);
            due("lines()", x.lines(), bits);
        }
    }

    private static void possible() {
        promise = "promise 7";
        due("possible() of 0", twoWays(0).possible(), true);
        due("possible() of 5", twoWays(5).possible(), true);
        due("possible() of 6", twoWays(6).possible(), false);
        due("possible() of -1", twoWays(-1).possible(), false);
        due("possible() of noWay", noWay().possible(), false);
        SupplyDesk x = new SupplyDesk();
        x.balance(4, 1);
        due("possible() of 1 at place 4", x.possible(), false);
        x.balance(4, 0);
        due("possible() of 0 at place 4", x.possible(), true);
    }

    private static void least() {
        promise = "promise 8";
        due("least() of 0", twoWays(0).least(), 0);
        due("least() of 3", twoWays(3).least(), 12);
        due("least() of 4", twoWays(4).least(), 17);
        due("least() of 5", twoWays(5).least(), 22);
        due("least() of 6", twoWays(6).least(), NONE);
        due("least() of noWay", noWay().least(), NONE);
        SupplyDesk x = new SupplyDesk();
        x.add(0, 1, what(3, -9));
        x.add(1, 0, what(2, 4));
        due("least() round and round", x.least(), -10);
        due("least() of the greatest loss", ring(-9).least(), -135);
        due("least() of the greatest gain", ring(9).least(), 0);
    }

    private static SupplyDesk ring(int cost) {
        SupplyDesk x = new SupplyDesk();
        for (int p = 0; p < 5; p++) {
            x.add(p, (p + 1) % 5, what(3, cost));
        }
        return x;
    }

    private static void greatest() {
        promise = "promise 9";
        due("greatest() of 0", twoWays(0).greatest(), 0);
        due("greatest() of 1", twoWays(1).greatest(), 5);
        due("greatest() of 3", twoWays(3).greatest(), 14);
        due("greatest() of 5", twoWays(5).greatest(), 22);
        due("greatest() of 6", twoWays(6).greatest(), NONE);
        due("greatest() of noWay", noWay().greatest(), NONE);
        due("greatest() of a ring", ring(9).greatest(), 135);
        due("greatest() of a ring at a loss", ring(-9).greatest(), 0);
        SupplyDesk x = new SupplyDesk();
        x.add(0, 1, what(2, -9));
        x.balance(0, 2);
        x.balance(1, -2);
        due("greatest() below 0", x.greatest(), -18);
    }

    private static void first() {
        promise = "promise 10";
        SupplyDesk x = twoWays(4);
        due("first(0)", x.first(0), 1);
        due("first(1)", x.first(1), 3);
        due("first(2)", x.first(2), 3);
        int[] noLines = {-1, 3, 6, 7, LOW, HIGH};
        for (int k : noLines) {
            due("first(" + k + ")", x.first(k), BAD);
        }
        due("first(0) of noWay", noWay().first(0), BAD);
        SupplyDesk y = equalWays(2);
        due("first(0) of equal ways", y.first(0), 0);
        due("first(1) of equal ways", y.first(1), 2);
        due("first(2) of equal ways", y.first(2), 2);
    }

    private static void firstFollowsLineNumbers() {
        promise = "promise 10";
        SupplyDesk x = new SupplyDesk();
        x.add(3, 4, 0);
        x.add(0, 1, what(2, 1));
        x.add(0, 1, what(3, 1));
        x.balance(0, 3);
        x.balance(1, -3);
        due("first(1)", x.first(1), 0);
        due("first(2)", x.first(2), 3);
        // The line that is added last has the least number, and so is kept low first.
        x.remove(0);
        due("add", x.add(0, 1, what(3, 1)), 0);
        due("first(0)", x.first(0), 0);
        due("first(1)", x.first(1), 0);
        due("first(2)", x.first(2), 3);
        x.balance(0, 7);
        x.balance(1, -7);
        due("first(0) of 7", x.first(0), 2);
        due("first(1) of 7", x.first(1), 2);
        due("first(2) of 7", x.first(2), 3);
    }

    private static void range() {
        promise = "promise 11";
        SupplyDesk x = equalWays(3);
        due("range(0, 0)", x.range(0, 0), 0);
        due("range(0, 1)", x.range(0, 1), 2);
        due("range(1, 0)", x.range(1, 0), 1);
        due("range(1, 1)", x.range(1, 1), 3);
        int[] noWhats = {-1, 2, LOW, HIGH};
        for (int w : noWhats) {
            due("range(0, " + w + ")", x.range(0, w), BAD);
        }
        int[] noLines = {-1, 3, 6, 7, LOW, HIGH};
        for (int k : noLines) {
            due("range(" + k + ", 0)", x.range(k, 0), BAD);
            due("range(" + k + ", 1)", x.range(k, 1), BAD);
        }
        SupplyDesk y = twoWays(4);
        due("range(0, 0) of one best", y.range(0, 0), 1);
        due("range(0, 1) of one best", y.range(0, 1), 1);
        due("range(0, 0) of noWay", noWay().range(0, 0), BAD);
        due("range(0, 1) of noWay", noWay().range(0, 1), BAD);
    }

    private static void unique() {
        promise = "promise 12";
        due("unique() of one best among many", twoWays(2).unique(), true);
        due("unique() of equal ways", equalWays(2).unique(), false);
        due("unique() of equal ways, nothing sent", equalWays(0).unique(), true);
        due("unique() of equal ways, all full", equalWays(5).unique(), true);
        due("unique() of noWay", noWay().unique(), false);
        due("unique() of a free ring", ring(0).unique(), false);
        due("unique() of a ring", ring(1).unique(), true);
    }

    private static void leastWith() {
        promise = "promise 13";
        SupplyDesk x = twoWays(3);
        due("leastWith(0, 0)", x.leastWith(0, 0), 12);
        due("leastWith(0, 1)", x.leastWith(0, 1), 13);
        due("leastWith(0, 2)", x.leastWith(0, 2), 14);
        int[] noNumbers = {-1, 3, 4, LOW, HIGH};
        for (int n : noNumbers) {
            due("leastWith(0, " + n + ")", x.leastWith(0, n), NONE);
        }
        due("leastWith(1, 0)", x.leastWith(1, 0), NONE);
        due("leastWith(1, 1)", x.leastWith(1, 1), 14);
        due("leastWith(1, 3)", x.leastWith(1, 3), 12);
        due("leastWith(1, 4)", x.leastWith(1, 4), NONE);
        int[] noLines = {-1, 3, 6, 7, LOW, HIGH};
        for (int k : noLines) {
            due("leastWith(" + k + ", 0)", x.leastWith(k, 0), NONE);
        }
        due("leastWith(0, 0) of noWay", noWay().leastWith(0, 0), NONE);
        due("leastWith(0, 1) of noWay", noWay().leastWith(0, 1), NONE);
    }

    private static void worth() {
        promise = "promise 14";
        SupplyDesk x = twoWays(4);
        due("worth(0)", x.worth(0), 0);
        due("worth(1)", x.worth(1), 0);
        due("worth(2)", x.worth(2), 0);
        x.change(1, what(2, 2));
        due("worth(1), as it alone is full", x.worth(1), 1);
        due("worth(2), as line 1 is full", x.worth(2), 0);
        int[] noLines = {-1, 3, 6, 7, LOW, HIGH};
        for (int k : noLines) {
            due("worth(" + k + ")", x.worth(k), NONE);
        }
        SupplyDesk y = new SupplyDesk();
        y.add(0, 1, what(3, 2));
        y.add(0, 1, what(3, 9));
        y.balance(0, 4);
        y.balance(1, -4);
        due("worth(0) with four rooms", y.worth(0), 7);
        y.change(0, what(0, -9));
        due("worth(0) where there is no shipment as it is", y.worth(0), NONE);
        y.change(1, what(3, 9));
        y.balance(0, 3);
        y.balance(1, -3);
        due("worth(0) with one room for none", y.worth(0), 18);
        due("worth(0) of noWay", noWay().worth(0), NONE);
        SupplyDesk z = new SupplyDesk();
        z.add(0, 1, what(3, -9));
        z.add(1, 0, what(2, 2));
        due("worth(0) of a ring", z.worth(0), 0);
        due("worth(1) of a ring", z.worth(1), 7);
    }

    private static void shifted() {
        promise = "promise 15";
        SupplyDesk x = twoWays(3);
        due("shifted(0, 2)", x.shifted(0, 2), 17);
        due("shifted(2, 0)", x.shifted(2, 0), 8);
        due("shifted(1, 2)", x.shifted(1, 2), 15);
        due("shifted(0, 3)", x.shifted(0, 3), NONE);
        for (int p = 0; p < 5; p++) {
            due("shifted(" + p + ", " + p + ")", x.shifted(p, p), NONE);
        }
        int[] noPlaces = {-1, 5, LOW, HIGH};
        for (int p : noPlaces) {
            due("shifted(" + p + ", 2)", x.shifted(p, 2), NONE);
            due("shifted(0, " + p + ")", x.shifted(0, p), NONE);
            due("shifted(" + p + ", " + p + ")", x.shifted(p, p), NONE);
        }
        due("shifted(0, 2) of 5", twoWays(5).shifted(0, 2), NONE);
        due("shifted(2, 0) of 6, not possible as it is", twoWays(6).shifted(2, 0), 22);
        due("shifted(0, 2) of -1, not possible as it is", twoWays(-1).shifted(0, 2), 0);
        SupplyDesk wide = wide(9);
        due("shifted(0, 1) beyond 9", wide.shifted(0, 1), 10);
        due("shifted(1, 0)", wide.shifted(1, 0), 8);
    }

    /** Seven lines from 0 to 1, each of room 3 and cost 1. */
    private static SupplyDesk wide(int amount) {
        SupplyDesk x = new SupplyDesk();
        for (int k = 0; k < 7; k++) {
            x.add(0, 1, what(3, 1));
        }
        x.balance(0, amount);
        x.balance(1, -amount);
        return x;
    }

    private static void spare() {
        promise = "promise 16";
        SupplyDesk x = twoWays(2);
        due("spare(0, 2)", x.spare(0, 2), 3);
        due("spare(2, 0)", x.spare(2, 0), 2);
        due("spare(0, 1)", x.spare(0, 1), 3);
        due("spare(1, 0)", x.spare(1, 0), 2);
        due("spare(0, 4)", x.spare(0, 4), 0);
        due("spare(3, 4)", x.spare(3, 4), 0);
        for (int p = 0; p < 5; p++) {
            due("spare(" + p + ", " + p + ")", x.spare(p, p), BAD);
        }
        int[] noPlaces = {-1, 5, LOW, HIGH};
        for (int p : noPlaces) {
            due("spare(" + p + ", 2)", x.spare(p, 2), BAD);
            due("spare(0, " + p + ")", x.spare(0, p), BAD);
            due("spare(" + p + ", " + p + ")", x.spare(p, p), BAD);
        }
        due("spare(0, 2) of noWay", noWay().spare(0, 2), BAD);
        due("spare(2, 0), possible only with one more", noWay().spare(2, 0), BAD);
        due("spare(0, 2) of -1, possible only with more", twoWays(-1).spare(0, 2), BAD);
        due("spare(0, 1) beyond 9", wide(9).spare(0, 1), 12);
        due("spare(0, 1) of all", wide(0).spare(0, 1), 21);
        due("spare(1, 0) of all", wide(9).spare(1, 0), 9);
    }

    private static void questionsChangeNothing() {
        promise = "promises 7 to 16";
        SupplyDesk x = equalWays(3);
        for (int round = 0; round < 2; round++) {
            due("possible()", x.possible(), true);
            due("leastWith(0, 1)", x.leastWith(0, 1), 12);
            due("worth(0)", x.worth(0), 0);
            due("shifted(0, 2)", x.shifted(0, 2), 16);
            due("spare(0, 2)", x.spare(0, 2), 2);
            due("spare(2, 0)", x.spare(2, 0), 3);
            due("least()", x.least(), 12);
            due("greatest()", x.greatest(), 12);
            due("first(0)", x.first(0), 0);
            due("range(0, 1)", x.range(0, 1), 2);
            due("unique()", x.unique(), false);
            due("lines()", x.lines(), 7);
        }
    }

    /** An object that has had a shipment must not answer from it when there is none any more. */
    private static void answersDoNotLinger() {
        promise = "promises 7 to 16";
        SupplyDesk x = twoWays(2);
        for (int round = 0; round < 2; round++) {
            x.balance(2, -2);
            due("possible()", x.possible(), true);
            due("unique()", x.unique(), true);
            due("least()", x.least(), 8);
            x.balance(2, -1);
            due("unique() without a shipment", x.unique(), false);
            due("possible() without a shipment", x.possible(), false);
            due("least() without a shipment", x.least(), NONE);
            due("greatest() without a shipment", x.greatest(), NONE);
            due("first(1) without a shipment", x.first(1), BAD);
            due("range(1, 0) without a shipment", x.range(1, 0), BAD);
            due("leastWith(1, 2) without a shipment", x.leastWith(1, 2), NONE);
            due("worth(1) without a shipment", x.worth(1), NONE);
            due("shifted(0, 2) without a shipment", x.shifted(0, 2), NONE);
            due("spare(0, 2) without a shipment", x.spare(0, 2), BAD);
        }
    }
}

/**
 * Ships goods through a small network at the least cost.
 *
 * <p>A network has at most 4^7 ways to give its lines numbers, so every question is answered by
 * trying all of them: that follows the document's words most closely and speed is not promised.
 */
public final class SupplyDesk {
    public static final int BAD = -1;
    public static final int FULL = -2;
    public static final int NONE = -100000;

    private static final int PLACES = 5;
    private static final int LINES = 7;
    private static final int BALANCE_LIMIT = 9;
    private static final int COST_LIMIT = 9;
    private static final int ROOM_CHOICES = 4;
    private static final int WHAT_LIMIT = 75;

    // The network. A line that is not there keeps room 0, so that a trial gives it 0 alone.
    private final boolean[] present = new boolean[LINES];
    private final int[] source = new int[LINES];
    private final int[] target = new int[LINES];
    private final int[] room = new int[LINES];
    private final int[] price = new int[LINES];
    private final int[] owed = new int[PLACES];

    // The question: the network as it is, or as it would be with one thing changed.
    private final int[] lowest = new int[LINES];
    private final int[] highest = new int[LINES];
    private final int[] wanted = new int[PLACES];

    // The trial: one way to give the lines numbers, with what follows from it.
    private final int[] number = new int[LINES];
    private final int[] sent = new int[PLACES];
    private int spent;

    // What the last survey found; all but the first two mean something only after a shipment.
    private boolean found;
    private int bestCount;
    private int leastCost;
    private int greatestCost;
    private final int[] firstBest = new int[LINES];
    private final int[] smallestBest = new int[LINES];
    private final int[] largestBest = new int[LINES];

    public SupplyDesk() {
    }

    public int add(int a, int b, int what) {
        if (!areTwoPlaces(a, b) || !isWhat(what)) {
            return BAD;
        }
        int k = freeLine();
        if (k == LINES) {
            return FULL;
        }
        present[k] = true;
        source[k] = a;
        target[k] = b;
        setRoomAndPrice(k, what);
        return k;
    }

    public boolean remove(int k) {
        if (!isLine(k)) {
            return false;
        }
        present[k] = false;
        room[k] = 0;
        return true;
    }

    public boolean change(int k, int what) {
        if (!isLine(k) || !isWhat(what)) {
            return false;
        }
        setRoomAndPrice(k, what);
        return true;
    }

    public boolean balance(int p, int b) {
        if (!isPlace(p) || b < -BALANCE_LIMIT || b > BALANCE_LIMIT) {
            return false;
        }
        owed[p] = b;
        return true;
    }

    public int lines() {
        int bits = 0;
        for (int k = 0; k < LINES; k++) {
            if (present[k]) {
                bits |= 1 << k;
            }
        }
        return bits;
    }

    public boolean possible() {
        askAsItIs();
        survey();
        return found;
    }

    public int least() {
        askAsItIs();
        survey();
        return leastFound();
    }

    public int greatest() {
        askAsItIs();
        survey();
        return found ? greatestCost : NONE;
    }

    public int first(int k) {
        if (!isLine(k)) {
            return BAD;
        }
        askAsItIs();
        survey();
        return found ? firstBest[k] : BAD;
    }

    public int range(int k, int what) {
        if (!isLine(k) || what < 0 || what > 1) {
            return BAD;
        }
        askAsItIs();
        survey();
        if (!found) {
            return BAD;
        }
        return what == 0 ? smallestBest[k] : largestBest[k];
    }

    public boolean unique() {
        askAsItIs();
        survey();
        return bestCount == 1;
    }

    public int leastWith(int k, int n) {
        if (!isLine(k) || n < 0 || n > room[k]) {
            return NONE;
        }
        askAsItIs();
        lowest[k] = n;
        highest[k] = n;
        survey();
        return leastFound();
    }

    public int worth(int k) {
        if (!isLine(k)) {
            return NONE;
        }
        askAsItIs();
        survey();
        if (!found) {
            return NONE;
        }
        int before = leastCost;
        highest[k]++;
        survey();
        return before - leastCost;
    }

    public int shifted(int p, int q) {
        if (!areTwoPlaces(p, q)) {
            return NONE;
        }
        askAsItIs();
        wanted[p]++;
        wanted[q]--;
        survey();
        return leastFound();
    }

    public int spare(int p, int q) {
        if (!areTwoPlaces(p, q)) {
            return BAD;
        }
        askAsItIs();
        survey();
        return found ? greatestExtra(p, q) : BAD;
    }

    private boolean isPlace(int p) {
        return p >= 0 && p < PLACES;
    }

    private boolean areTwoPlaces(int p, int q) {
        return isPlace(p) && isPlace(q) && p != q;
    }

    private boolean isLine(int k) {
        return k >= 0 && k < LINES && present[k];
    }

    private boolean isWhat(int what) {
        return what >= 0 && what <= WHAT_LIMIT;
    }

    /** The least number that no line has; LINES when all are taken. */
    private int freeLine() {
        for (int k = 0; k < LINES; k++) {
            if (!present[k]) {
                return k;
            }
        }
        return LINES;
    }

    private void setRoomAndPrice(int k, int what) {
        room[k] = what % ROOM_CHOICES;
        price[k] = what / ROOM_CHOICES - COST_LIMIT;
    }

    private void askAsItIs() {
        for (int k = 0; k < LINES; k++) {
            lowest[k] = 0;
            highest[k] = room[k];
        }
        for (int p = 0; p < PLACES; p++) {
            wanted[p] = owed[p];
        }
    }

    /** Tries every way in dictionary order and notes what the answers are made of. */
    private void survey() {
        found = false;
        bestCount = 0;
        int trials = startTrials();
        for (int t = 0; t < trials; t++) {
            if (isShipment()) {
                noteShipment();
            }
            nextTrial();
        }
    }

    /** Sets up the first trial and answers how many there are. */
    private int startTrials() {
        int trials = 1;
        spent = 0;
        for (int p = 0; p < PLACES; p++) {
            sent[p] = 0;
        }
        for (int k = 0; k < LINES; k++) {
            number[k] = 0;
            giveNumber(k, lowest[k]);
            trials *= highest[k] - lowest[k] + 1;
        }
        return trials;
    }

    /** The last line turns fastest, so that trials come in dictionary order. */
    private void nextTrial() {
        for (int k = LINES - 1; k >= 0; k--) {
            if (number[k] < highest[k]) {
                giveNumber(k, number[k] + 1);
                return;
            }
            giveNumber(k, lowest[k]);
        }
    }

    private void giveNumber(int k, int n) {
        int more = n - number[k];
        number[k] = n;
        sent[source[k]] += more;
        sent[target[k]] -= more;
        spent += more * price[k];
    }

    private boolean isShipment() {
        for (int p = 0; p < PLACES; p++) {
            if (sent[p] != wanted[p]) {
                return false;
            }
        }
        return true;
    }

    private void noteShipment() {
        if (!found || spent > greatestCost) {
            greatestCost = spent;
        }
        if (!found || spent < leastCost) {
            noteFirstBest();
        } else if (spent == leastCost) {
            noteOtherBest();
        }
        found = true;
    }

    private void noteFirstBest() {
        leastCost = spent;
        bestCount = 1;
        for (int k = 0; k < LINES; k++) {
            firstBest[k] = number[k];
            smallestBest[k] = number[k];
            largestBest[k] = number[k];
        }
    }

    private void noteOtherBest() {
        bestCount++;
        for (int k = 0; k < LINES; k++) {
            if (number[k] < smallestBest[k]) {
                smallestBest[k] = number[k];
            }
            if (number[k] > largestBest[k]) {
                largestBest[k] = number[k];
            }
        }
    }

    private int leastFound() {
        return found ? leastCost : NONE;
    }

    /** Asked only where there is a shipment as it is, so 0 is always among the amounts. */
    private int greatestExtra(int p, int q) {
        int most = 0;
        int trials = startTrials();
        for (int t = 0; t < trials; t++) {
            int extra = sent[p] - wanted[p];
            if (extra > most && isShipmentWithExtra(p, q, extra)) {
                most = extra;
            }
            nextTrial();
        }
        return most;
    }

    private boolean isShipmentWithExtra(int p, int q, int extra) {
        wanted[p] += extra;
        wanted[q] -= extra;
        boolean fits = isShipment();
        wanted[p] -= extra;
        wanted[q] += extra;
        return fits;
    }
}

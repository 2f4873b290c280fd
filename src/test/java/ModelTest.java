import java.util.ArrayList;
import java.util.Collections;
import java.util.List;
import java.util.Map;
import java.util.Random;
import java.util.TreeMap;

/**
 * Runs of 512 calls on a new object, beside a model that lists the shipments and answers from the
 * list by the document's definitions. The seeds are fixed, so that each run can be had again.
 */
public final class ModelTest {
    private static final int RUNS = 400;
    private static final int CALLS = 512;

    public static void main(String[] args) {
        int wrong = 0;
        for (int seed = 0; seed < RUNS && wrong < 20; seed++) {
            wrong += new Run(seed).wrongAnswers();
        }
        System.out.println(wrong == 0 ? "all answers are as due" : wrong + " answers are not as due");
        if (wrong != 0) {
            System.exit(1);
        }
    }

    private record Line(int from, int to, int room, int cost) {
        static Line of(int from, int to, int what) {
            return new Line(from, to, what & 3, (what >> 2) - 9);
        }

        Line withRoom(int other) {
            return new Line(from, to, other, cost);
        }
    }

    private record Shipment(int cost, Map<Integer, Integer> numbers) {
    }

    private static final class Model {
        final TreeMap<Integer, Line> lines = new TreeMap<>();
        final int[] balances = new int[5];

        static List<Shipment> shipments(TreeMap<Integer, Line> lines, int[] balances) {
            List<Shipment> all = new ArrayList<>();
            extend(new ArrayList<>(lines.keySet()), 0, lines, balances.clone(), new TreeMap<>(), 0, all);
            return all;
        }

        /** What a line sends is taken off the balances at once: at the end nothing may be left. */
        private static void extend(List<Integer> keys, int at, TreeMap<Integer, Line> lines, int[] left,
                TreeMap<Integer, Integer> numbers, int cost, List<Shipment> all) {
            if (at == keys.size()) {
                for (int rest : left) {
                    if (rest != 0) {
                        return;
                    }
                }
                all.add(new Shipment(cost, new TreeMap<>(numbers)));
                return;
            }
            int k = keys.get(at);
            Line line = lines.get(k);
            for (int n = 0; n <= line.room(); n++) {
                left[line.from()] -= n;
                left[line.to()] += n;
                numbers.put(k, n);
                extend(keys, at + 1, lines, left, numbers, cost + n * line.cost(), all);
                left[line.from()] += n;
                left[line.to()] -= n;
            }
        }

        List<Shipment> shipments() {
            return shipments(lines, balances);
        }

        static int leastOf(List<Shipment> all) {
            return all.stream().mapToInt(Shipment::cost).min().orElse(-100000);
        }

        List<Shipment> best() {
            List<Shipment> all = shipments();
            int least = leastOf(all);
            return all.stream().filter(s -> s.cost() == least).toList();
        }

        int[] movedBalances(int p, int q, int n) {
            int[] moved = balances.clone();
            moved[p] += n;
            moved[q] -= n;
            return moved;
        }

        static boolean two(int p, int q) {
            return p != q && p >= 0 && p <= 4 && q >= 0 && q <= 4;
        }

        int add(int a, int b, int what) {
            if (!two(a, b) || what < 0 || what > 75) {
                return -1;
            }
            if (lines.size() == 7) {
                return -2;
            }
            int k = 0;
            while (lines.containsKey(k)) {
                k++;
            }
            lines.put(k, Line.of(a, b, what));
            return k;
        }

        boolean remove(int k) {
            return lines.remove(k) != null;
        }

        boolean change(int k, int what) {
            if (what < 0 || what > 75 || !lines.containsKey(k)) {
                return false;
            }
            Line old = lines.get(k);
            lines.put(k, Line.of(old.from(), old.to(), what));
            return true;
        }

        boolean balance(int p, int b) {
            if (p < 0 || p > 4 || b < -9 || b > 9) {
                return false;
            }
            balances[p] = b;
            return true;
        }

        int bits() {
            return lines.keySet().stream().mapToInt(k -> 1 << k).sum();
        }

        int greatest() {
            return shipments().stream().mapToInt(Shipment::cost).max().orElse(-100000);
        }

        int first(int k) {
            List<Shipment> best = best();
            if (!lines.containsKey(k) || best.isEmpty()) {
                return -1;
            }
            Shipment least = Collections.min(best, ModelTest::compareNumbers);
            return least.numbers().get(k);
        }

        int range(int k, int what) {
            List<Shipment> best = best();
            if (!lines.containsKey(k) || best.isEmpty() || (what != 0 && what != 1)) {
                return -1;
            }
            List<Integer> numbers = best.stream().map(s -> s.numbers().get(k)).toList();
            return what == 0 ? Collections.min(numbers) : Collections.max(numbers);
        }

        int leastWith(int k, int n) {
            if (!lines.containsKey(k)) {
                return -100000;
            }
            return leastOf(shipments().stream().filter(s -> s.numbers().get(k) == n).toList());
        }

        int worth(int k) {
            List<Shipment> all = shipments();
            if (!lines.containsKey(k) || all.isEmpty()) {
                return -100000;
            }
            TreeMap<Integer, Line> wider = new TreeMap<>(lines);
            wider.put(k, lines.get(k).withRoom(lines.get(k).room() + 1));
            return leastOf(all) - leastOf(shipments(wider, balances));
        }

        int shifted(int p, int q) {
            return two(p, q) ? leastOf(shipments(lines, movedBalances(p, q, 1))) : -100000;
        }

        int spare(int p, int q) {
            if (!two(p, q) || shipments().isEmpty()) {
                return -1;
            }
            // No place can send more than 21, nor owe less than -9.
            int n = 30;
            while (shipments(lines, movedBalances(p, q, n)).isEmpty()) {
                n--;
            }
            return n;
        }
    }

    private static int compareNumbers(Shipment a, Shipment b) {
        for (int k : a.numbers().keySet()) {
            int order = Integer.compare(a.numbers().get(k), b.numbers().get(k));
            if (order != 0) {
                return order;
            }
        }
        return 0;
    }

    private static final class Run {
        final int seed;
        final Random random;
        final SupplyDesk desk = new SupplyDesk();
        final Model model = new Model();
        int wrong = 0;
        int call = 0;

        Run(int seed) {
            this.seed = seed;
            this.random = new Random(seed);
        }

        int wrongAnswers() {
            while (call < CALLS && wrong == 0) {
                // Balances set blindly hardly ever allow a shipment.
                if (random.nextInt(12) == 0) {
                    makePossible();
                } else {
                    oneCall();
                }
            }
            return wrong;
        }

        void due(String name, int got, int want) {
            call++;
            if (got != want) {
                wrong++;
                System.out.println("seed " + seed + ", call " + call + ": " + name + " answered " + got
                        + ", due is " + want + "; lines " + model.lines + ", balances "
                        + java.util.Arrays.toString(model.balances));
            }
        }

        void due(String name, boolean got, boolean want) {
            due(name, got ? 1 : 0, want ? 1 : 0);
        }

        void makePossible() {
            int[] sums = new int[5];
            for (Line line : model.lines.values()) {
                int n = random.nextInt(line.room() + 1);
                sums[line.from()] += n;
                sums[line.to()] -= n;
            }
            // Nothing is promised after the last call, so this stops there too.
            for (int p = 0; p < 5 && call < CALLS; p++) {
                setBalance(p, sums[p]);
            }
        }

        void setBalance(int p, int b) {
            due("balance(" + p + ", " + b + ")", desk.balance(p, b), model.balance(p, b));
        }

        /** Mostly from 0 to most, at times just outside, seldom far outside. */
        int pick(int most) {
            int kind = random.nextInt(40);
            if (kind == 0) {
                return random.nextInt();
            }
            if (kind == 1) {
                return random.nextBoolean() ? Integer.MIN_VALUE : Integer.MAX_VALUE;
            }
            if (kind == 2) {
                return random.nextBoolean() ? -1 : most + 1;
            }
            return random.nextInt(most + 1);
        }

        /** Costs from few values make ties; each seed has its own spread. */
        int pickWhat() {
            if (random.nextInt(20) == 0) {
                return pick(75);
            }
            int spread = seed % 4 == 0 ? 9 : seed % 4;
            int cost = random.nextInt(2 * spread + 1) - spread;
            return random.nextInt(4) + 4 * (cost + 9);
        }

        /** Few places make more ways between them; each seed has its own number of places. */
        int pickPlace() {
            return random.nextInt(6) == 0 ? pick(4) : random.nextInt(2 + seed % 3);
        }

        void oneCall() {
            int p = pickPlace();
            int q = pickPlace();
            int k = pick(6);
            int w = pickWhat();
            switch (random.nextInt(20)) {
                case 0, 1, 2, 3 -> due("add(" + p + ", " + q + ", " + w + ")", desk.add(p, q, w), model.add(p, q, w));
                case 4 -> due("remove(" + k + ")", desk.remove(k), model.remove(k));
                case 5 -> due("change(" + k + ", " + w + ")", desk.change(k, w), model.change(k, w));
                case 6 -> {
                    if (random.nextInt(4) == 0) {
                        setBalance(p, pick(18) - 9);
                    }
                }
                case 7 -> due("lines()", desk.lines(), model.bits());
                case 8 -> due("possible()", desk.possible(), !model.shipments().isEmpty());
                case 9 -> due("least()", desk.least(), Model.leastOf(model.shipments()));
                case 10 -> due("greatest()", desk.greatest(), model.greatest());
                case 11, 12 -> due("first(" + k + ")", desk.first(k), model.first(k));
                case 13, 14 -> askRange(k);
                case 15 -> due("unique()", desk.unique(), model.best().size() == 1);
                case 16 -> askLeastWith(k);
                case 17 -> due("worth(" + k + ")", desk.worth(k), model.worth(k));
                case 18 -> due("shifted(" + p + ", " + q + ")", desk.shifted(p, q), model.shifted(p, q));
                default -> due("spare(" + p + ", " + q + ")", desk.spare(p, q), model.spare(p, q));
            }
        }

        void askRange(int k) {
            int end = pick(1);
            due("range(" + k + ", " + end + ")", desk.range(k, end), model.range(k, end));
        }

        void askLeastWith(int k) {
            int n = pick(3);
            due("leastWith(" + k + ", " + n + ")", desk.leastWith(k, n), model.leastWith(k, n));
        }
    }
}

import java.math.BigInteger;
import java.util.ArrayList;
import java.util.Arrays;
import java.util.List;
import java.util.Random;

// Runs of calls on the class beside a model that tells the document anew, in the most literal way.
// The seed is fixed, so the runs are the same each time.
public final class ModelTest {
    private static final int RUNS = 400;
    private static final int CALLS = 120;

    private static int wrong = 0;

    public static void main(String[] args) {
        Random random = new Random(20261115L);
        for (int run = 1; run <= RUNS && wrong < 20; run++) {
            oneRun(run, random);
        }
        System.out.println(wrong == 0 ? "all answers are as due" : wrong + " answers are not as due");
        if (wrong != 0) {
            System.exit(1);
        }
    }

    private static void oneRun(int run, Random random) {
        SeatShares x = new SeatShares();
        Model model = new Model();
        StringBuilder told = new StringBuilder();
        // Small votes make equal quotients and rests, great ones make close quotients.
        int[] tops = {3, 12, 60, 999};
        int top = tops[random.nextInt(tops.length)];
        for (int c = 0; c < CALLS; c++) {
            int[] call = c < 4 ? new int[] {0, random.nextInt(top + 1), 0} : anyCall(random, top);
            int got = ask(x, call);
            int want = model.answer(call);
            told.append(' ').append(name(call)).append('=').append(got);
            if (got != want) {
                wrong++;
                System.out.println("run " + run + ":" + told + ", due is " + want);
                return;
            }
        }
    }

    private static int[] anyCall(Random random, int top) {
        // The calls that change something come less often, so that each state is asked about a few times.
        int kind = random.nextInt(4) == 0 ? random.nextInt(5) : 5 + random.nextInt(10);
        int rule = random.nextInt(20) == 0 ? random.nextInt(11) - 2 : random.nextInt(7);
        int i = random.nextInt(8) - 1;
        switch (kind) {
            case 0:
                return new int[] {kind, random.nextInt(15) == 0 ? 1000 : random.nextInt(top + 1), 0};
            case 1:
                return new int[] {kind, i, random.nextInt(15) == 0 ? -1 : random.nextInt(top + 1)};
            case 2:
                return new int[] {kind, i, random.nextInt(8) - 1};
            case 3:
                return new int[] {kind, random.nextInt(33) - 1, 0};
            case 4:
                return new int[] {kind, random.nextInt(4) == 0 ? random.nextInt(103) - 1 : random.nextInt(12), 0};
            case 13:
                return new int[] {kind, rule, random.nextInt(9) - 1};
            default:
                return new int[] {kind, rule, i};
        }
    }

    private static int ask(SeatShares x, int[] call) {
        int a = call[1];
        int b = call[2];
        switch (call[0]) {
            case 0: return x.list(a);
            case 1: return x.vote(a, b);
            case 2: return x.join(a, b);
            case 3: return x.seats(a);
            case 4: return x.bar(a);
            case 5: return x.lists();
            case 6: return x.votes();
            case 7: return x.share(a, b);
            case 8: return x.next(a);
            case 9: return x.missing(a, b);
            case 10: return x.spare(a, b);
            case 11: return x.fall(a);
            case 12: return x.outside(a);
            case 13: return x.moved(a, b);
            default: return x.majority(a);
        }
    }

    private static String name(int[] call) {
        String[] names = {"list", "vote", "join", "seats", "bar", "lists", "votes", "share", "next", "missing",
            "spare", "fall", "outside", "moved", "majority"};
        return names[call[0]] + "(" + call[1] + ", " + call[2] + ")";
    }

    private static final class Model {
        private final List<Integer> votes = new ArrayList<>();
        private int seats = 0;

        int answer(int[] call) {
            int a = call[1];
            int b = call[2];
            switch (call[0]) {
                case 0: return list(a);
                case 1: return vote(a, b);
                case 2: return join(a, b);
                case 3: return seats(a);
                case 4: return bar(a);
                case 5: return votes.size();
                case 6: return sum(now());
                default: return question(call[0], a, b);
            }
        }

        private int list(int v) {
            if (v < 0 || v > 999) {
                return -1;
            }
            if (votes.size() == 6) {
                return -2;
            }
            votes.add(v);
            return votes.size() - 1;
        }

        private int vote(int i, int v) {
            return there(i) && v >= 0 && v <= 999 ? votes.set(i, v) : -1;
        }

        private int join(int i, int j) {
            if (!there(i) || !there(j) || i == j) {
                return -1;
            }
            votes.set(i, Math.min(999, votes.get(i) + votes.get(j)));
            votes.set(j, 0);
            return votes.get(i);
        }

        private int seats(int n) {
            if (n < 0 || n > 30) {
                return -1;
            }
            int before = seats;
            seats = n;
            return before;
        }

        private int bar(int p) {
            if (p < 0 || p > 100) {
                return -1;
            }
            Fraction needed = new Fraction(p * sum(now()), 100);
            votes.replaceAll(v -> new Fraction(v, 1).compareTo(needed) < 0 ? 0 : v);
            return (int) votes.stream().filter(v -> v > 0).count();
        }

        private int question(int kind, int rule, int b) {
            boolean hasList = kind == 7 || kind == 9 || kind == 10;
            boolean ofQuotients = kind == 8 || kind == 9 || kind == 10;
            if (rule < 0 || rule > 6 || hasList && !there(b) || ofQuotients && rule > 4) {
                return -1;
            }
            switch (kind) {
                case 7: return share(rule, now(), seats)[b];
                case 8: return next(rule);
                case 9: return missing(rule, b);
                case 10: return spare(rule, b);
                case 11: return fall(rule);
                case 12: return outside(rule);
                case 13: return b < 0 || b > 6 ? -1 : moved(rule, b);
                default: return majority(rule);
            }
        }

        private int next(int rule) {
            int[] before = share(rule, now(), seats);
            int[] after = share(rule, now(), seats + 1);
            for (int i = 0; i < before.length; i++) {
                if (after[i] > before[i]) {
                    return i;
                }
            }
            return -4;
        }

        private int missing(int rule, int i) {
            int present = share(rule, now(), seats)[i];
            for (int m = 1; m <= 2000; m++) {
                if (share(rule, changed(i, m), seats)[i] > present) {
                    return m;
                }
            }
            return -4;
        }

        private int spare(int rule, int i) {
            int present = share(rule, now(), seats)[i];
            int most = 0;
            for (int m = 0; m <= votes.get(i); m++) {
                if (share(rule, changed(i, -m), seats)[i] >= present) {
                    most = m;
                }
            }
            return most;
        }

        private int fall(int rule) {
            for (int n = seats; n <= 29; n++) {
                int[] before = share(rule, now(), n);
                int[] after = share(rule, now(), n + 1);
                for (int i = 0; i < before.length; i++) {
                    if (after[i] < before[i]) {
                        return n;
                    }
                }
            }
            return -4;
        }

        private int outside(int rule) {
            int all = sum(now());
            int[] given = share(rule, now(), seats);
            int count = 0;
            for (int i = 0; i < given.length && all > 0; i++) {
                int down = seats * votes.get(i) / all;
                int up = seats * votes.get(i) % all == 0 ? down : down + 1;
                count += given[i] < down || given[i] > up ? 1 : 0;
            }
            return count;
        }

        private int moved(int first, int second) {
            int[] before = share(first, now(), seats);
            int[] after = share(second, now(), seats);
            int more = 0;
            for (int i = 0; i < before.length; i++) {
                more += Math.max(0, after[i] - before[i]);
            }
            return more;
        }

        // Every set of lists is tried, as the document says no more than 'the least number of lists'.
        private int majority(int rule) {
            int[] given = share(rule, now(), seats);
            int least = 0;
            for (int set = 1; set < 1 << given.length; set++) {
                int together = 0;
                for (int i = 0; i < given.length; i++) {
                    together += (set >> i & 1) * given[i];
                }
                if (2 * together > sum(given) && (least == 0 || Integer.bitCount(set) < least)) {
                    least = Integer.bitCount(set);
                }
            }
            return sum(given) == 0 ? 0 : least;
        }

        private boolean there(int i) {
            return i >= 0 && i < votes.size();
        }

        private int[] now() {
            return votes.stream().mapToInt(v -> v).toArray();
        }

        private int[] changed(int i, int by) {
            int[] v = now();
            v[i] += by;
            return v;
        }

        private static int sum(int[] numbers) {
            return Arrays.stream(numbers).sum();
        }

        private static int[] share(int rule, int[] votes, int seats) {
            if (sum(votes) == 0 || seats == 0) {
                return new int[votes.length];
            }
            return rule <= 4 ? shareByQuotients(rule, votes, seats) : shareByQuota(rule, votes, seats);
        }

        // A quotient is taken if fewer others than there are seats go before it.
        private static int[] shareByQuotients(int rule, int[] votes, int seats) {
            int[] given = new int[votes.length];
            for (int i = 0; i < votes.length; i++) {
                for (int k = 0; k < seats && votes[i] > 0; k++) {
                    given[i] += countBefore(rule, votes, seats, i, k) < seats ? 1 : 0;
                }
            }
            return given;
        }

        private static int countBefore(int rule, int[] votes, int seats, int i, int k) {
            int before = 0;
            for (int j = 0; j < votes.length; j++) {
                for (int l = 0; l < seats && votes[j] > 0; l++) {
                    int order = compareQuotients(rule, votes[j], l, votes[i], k);
                    before += order > 0 || order == 0 && j < i ? 1 : 0;
                }
            }
            return before;
        }

        private static int compareQuotients(int rule, long v, long k, long w, long l) {
            boolean above = rule >= 3 && k == 0;
            boolean otherAbove = rule >= 3 && l == 0;
            if (above && otherAbove) {
                return Long.compare(v, w);
            }
            if (above || otherAbove) {
                return above ? 1 : -1;
            }
            long a = rule == 3 ? v * v : v;
            long b = rule == 3 ? w * w : w;
            return Long.compare(a * divisor(rule, l), b * divisor(rule, k));
        }

        private static long divisor(int rule, long k) {
            long squares = rule == 3 ? k * (k + 1) : k;
            long odd = rule == 2 ? (k == 0 ? 7 : 10 * k + 5) : 2 * k + 1;
            return rule == 0 ? k + 1 : rule <= 2 ? odd : squares;
        }

        private static int[] shareByQuota(int rule, int[] votes, int seats) {
            int all = sum(votes);
            Fraction quota = rule == 5 ? new Fraction(all, seats) : new Fraction(all / (seats + 1) + 1, 1);
            int[] given = new int[votes.length];
            Fraction[] rests = new Fraction[votes.length];
            List<Integer> order = new ArrayList<>();
            for (int i = 0; i < votes.length; i++) {
                rests[i] = new Fraction(votes[i], 1);
                while (rests[i].compareTo(quota) >= 0) {
                    rests[i] = rests[i].minus(quota);
                    given[i]++;
                }
                if (votes[i] > 0) {
                    order.add(i);
                }
            }
            // The sort is stable: of equal rests the lesser number stays first.
            order.sort((i, j) -> rests[j].compareTo(rests[i]));
            int left = seats - sum(given);
            while (left > 0) {
                for (int i : order) {
                    given[i] += left > 0 ? 1 : 0;
                    left--;
                }
            }
            return given;
        }
    }

    private static final class Fraction implements Comparable<Fraction> {
        private final BigInteger top;
        private final BigInteger bottom;

        Fraction(long top, long bottom) {
            this(BigInteger.valueOf(top), BigInteger.valueOf(bottom));
        }

        private Fraction(BigInteger top, BigInteger bottom) {
            this.top = top;
            this.bottom = bottom;
        }

        Fraction minus(Fraction other) {
            BigInteger gcd = bottom.gcd(other.bottom);
            BigInteger common = bottom.divide(gcd).multiply(other.bottom);
            BigInteger a = top.multiply(common.divide(bottom));
            BigInteger b = other.top.multiply(common.divide(other.bottom));
            return new Fraction(a.subtract(b), common);
        }

        @Override
        public int compareTo(Fraction other) {
            return top.multiply(other.bottom).compareTo(other.top.multiply(bottom));
        }
    }
}

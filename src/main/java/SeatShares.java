/** Seats shared out by votes, by seven rules, and what a few votes or seats more would change. */
public final class SeatShares {
    public static final int BAD_ARG = -1;
    public static final int FULL = -2;
    public static final int NONE = -4;

    private static final int MAX_LISTS = 6;
    private static final int MAX_VOTES = 999;
    private static final int MAX_SEATS = 30;
    private static final int MAX_MISSING = 2000;
    private static final int LAST_QUOTIENT_RULE = 4;
    private static final int LAST_RULE = 6;

    private final int[] polled = new int[MAX_LISTS];
    private int listCount;
    private int seatCount;

    // Room for the questions to work in, since a method may make no array; nothing in it outlives a call.
    private final int[] trial = new int[MAX_LISTS];
    private final int[] shares = new int[MAX_LISTS];
    private final int[] otherShares = new int[MAX_LISTS];
    private final int[] rests = new int[MAX_LISTS];
    private final int[] order = new int[MAX_LISTS];

    public SeatShares() {
        listCount = 0;
        seatCount = 0;
    }

    public int list(int votes) {
        if (!isVotes(votes)) {
            return BAD_ARG;
        }
        if (listCount >= MAX_LISTS) {
            return FULL;
        }
        polled[listCount] = votes;
        listCount++;
        return listCount - 1;
    }

    public int vote(int i, int votes) {
        if (!isList(i) || !isVotes(votes)) {
            return BAD_ARG;
        }
        int before = polled[i];
        polled[i] = votes;
        return before;
    }

    public int join(int i, int j) {
        if (!isList(i) || !isList(j) || i == j) {
            return BAD_ARG;
        }
        int together = polled[i] + polled[j];
        polled[i] = together > MAX_VOTES ? MAX_VOTES : together;
        polled[j] = 0;
        return polled[i];
    }

    public int seats(int n) {
        if (n < 0 || n > MAX_SEATS) {
            return BAD_ARG;
        }
        int before = seatCount;
        seatCount = n;
        return before;
    }

    public int bar(int p) {
        if (p < 0 || p > 100) {
            return BAD_ARG;
        }
        // Summed up once, before any list loses its votes: all lists are held against the same sum.
        int all = sumOf(polled);
        for (int i = 0; i < listCount; i++) {
            if (polled[i] * 100 < p * all) {
                polled[i] = 0;
            }
        }
        return countWithVotes(polled);
    }

    public int lists() {
        return listCount;
    }

    public int votes() {
        return sumOf(polled);
    }

    public int share(int rule, int i) {
        if (!isRule(rule) || !isList(i)) {
            return BAD_ARG;
        }
        shareOut(rule, polled, seatCount, shares);
        return shares[i];
    }

    public int next(int rule) {
        if (!isQuotientRule(rule)) {
            return BAD_ARG;
        }
        shareOut(rule, polled, seatCount, shares);
        return greatestQuotient(rule, polled, shares);
    }

    public int missing(int rule, int i) {
        if (!isQuotientRule(rule) || !isList(i)) {
            return BAD_ARG;
        }
        shareOut(rule, polled, seatCount, shares);
        int present = shares[i];
        copyVotesToTrial();
        for (int more = 1; more <= MAX_MISSING; more++) {
            trial[i] = polled[i] + more;
            shareOut(rule, trial, seatCount, shares);
            if (shares[i] > present) {
                return more;
            }
        }
        return NONE;
    }

    public int spare(int rule, int i) {
        if (!isQuotientRule(rule) || !isList(i)) {
            return BAD_ARG;
        }
        shareOut(rule, polled, seatCount, shares);
        int present = shares[i];
        copyVotesToTrial();
        for (int fewer = polled[i]; fewer > 0; fewer--) {
            trial[i] = polled[i] - fewer;
            shareOut(rule, trial, seatCount, shares);
            if (shares[i] == present) {
                return fewer;
            }
        }
        return 0;
    }

    public int fall(int rule) {
        if (!isRule(rule)) {
            return BAD_ARG;
        }
        for (int n = seatCount; n < MAX_SEATS; n++) {
            shareOut(rule, polled, n, shares);
            shareOut(rule, polled, n + 1, otherShares);
            if (sumOfGains(otherShares, shares) > 0) {
                return n;
            }
        }
        return NONE;
    }

    public int outside(int rule) {
        if (!isRule(rule)) {
            return BAD_ARG;
        }
        int all = sumOf(polled);
        if (all == 0) {
            return 0;
        }
        shareOut(rule, polled, seatCount, shares);
        int count = 0;
        for (int i = 0; i < listCount; i++) {
            int due = seatCount * polled[i];
            int roundedDown = due / all;
            int roundedUp = (due + all - 1) / all;
            if (shares[i] < roundedDown || shares[i] > roundedUp) {
                count++;
            }
        }
        return count;
    }

    public int moved(int first, int second) {
        if (!isRule(first) || !isRule(second)) {
            return BAD_ARG;
        }
        shareOut(first, polled, seatCount, shares);
        shareOut(second, polled, seatCount, otherShares);
        return sumOfGains(shares, otherShares);
    }

    public int majority(int rule) {
        if (!isRule(rule)) {
            return BAD_ARG;
        }
        shareOut(rule, polled, seatCount, shares);
        int given = sumOf(shares);
        int held = 0;
        // The lists with the most seats come first, as no other choice gets past the half with fewer lists.
        for (int count = 1; count <= listCount; count++) {
            held += takeGreatest(shares);
            if (held * 2 > given) {
                return count;
            }
        }
        return 0;
    }

    private boolean isList(int i) {
        return i >= 0 && i < listCount;
    }

    private boolean isVotes(int votes) {
        return votes >= 0 && votes <= MAX_VOTES;
    }

    private boolean isRule(int rule) {
        return rule >= 0 && rule <= LAST_RULE;
    }

    private boolean isQuotientRule(int rule) {
        return rule >= 0 && rule <= LAST_QUOTIENT_RULE;
    }

    private int sumOf(int[] numbers) {
        int sum = 0;
        for (int i = 0; i < listCount; i++) {
            sum += numbers[i];
        }
        return sum;
    }

    private int countWithVotes(int[] ballots) {
        int count = 0;
        for (int i = 0; i < listCount; i++) {
            if (ballots[i] > 0) {
                count++;
            }
        }
        return count;
    }

    private void copyVotesToTrial() {
        for (int i = 0; i < listCount; i++) {
            trial[i] = polled[i];
        }
    }

    private int sumOfGains(int[] before, int[] after) {
        int sum = 0;
        for (int i = 0; i < listCount; i++) {
            if (after[i] > before[i]) {
                sum += after[i] - before[i];
            }
        }
        return sum;
    }

    private int takeGreatest(int[] numbers) {
        int best = 0;
        for (int i = 1; i < listCount; i++) {
            if (numbers[i] > numbers[best]) {
                best = i;
            }
        }
        int greatest = numbers[best];
        numbers[best] = 0;
        return greatest;
    }

    private void shareOut(int rule, int[] ballots, int n, int[] given) {
        for (int i = 0; i < listCount; i++) {
            given[i] = 0;
        }
        if (isQuotientRule(rule)) {
            shareByQuotients(rule, ballots, n, given);
        } else {
            shareByQuota(rule, ballots, n, given);
        }
    }

    // A list's quotients fall as k rises, so taking the greatest open one n times takes the n greatest.
    private void shareByQuotients(int rule, int[] ballots, int n, int[] given) {
        for (int s = 0; s < n; s++) {
            int winner = greatestQuotient(rule, ballots, given);
            if (winner >= 0) {
                given[winner]++;
            }
        }
    }

    private int greatestQuotient(int rule, int[] ballots, int[] taken) {
        int best = NONE;
        // Every list with votes is above 0 / 1, so the first one of them is taken up.
        long bestTop = 0;
        long bestBottom = 1;
        for (int i = 0; i < listCount; i++) {
            if (ballots[i] > 0) {
                long top = dividend(rule, ballots[i]);
                long bottom = divisor(rule, taken[i]);
                if (isGreater(top, bottom, bestTop, bestBottom)) {
                    best = i;
                    bestTop = top;
                    bestBottom = bottom;
                }
            }
        }
        return best;
    }

    private long dividend(int rule, long votes) {
        return rule == 3 ? votes * votes : votes;
    }

    // 0 stands for the quotients of rules 3 and 4 that are greater than all others.
    private long divisor(int rule, long k) {
        switch (rule) {
            case 0:
                return k + 1;
            case 1:
                return 2 * k + 1;
            case 2:
                return k == 0 ? 7 : 10 * k + 5;
            case 3:
                return k * (k + 1);
            default:
                return k;
        }
    }

    // Multiplied crosswise, so that the fractions stay exact and a bottom of 0 wins over every other.
    private boolean isGreater(long top, long bottom, long otherTop, long otherBottom) {
        if (bottom == 0 && otherBottom == 0) {
            return top > otherTop;
        }
        return top * otherBottom > otherTop * bottom;
    }

    private void shareByQuota(int rule, int[] ballots, int n, int[] given) {
        int all = sumOf(ballots);
        if (all <= 0 || n <= 0) {
            return;
        }
        // The quota of rule 5 is a fraction: with votes counted in n-th parts it is the whole number of all votes.
        int scale = rule == 5 ? n : 1;
        int quota = rule == 5 ? all : all / (n + 1) + 1;
        for (int i = 0; i < listCount; i++) {
            given[i] = ballots[i] * scale / quota;
            rests[i] = ballots[i] * scale % quota;
        }
        orderByRests(ballots);
        int left = n - sumOf(given);
        int ordered = countWithVotes(ballots);
        giveInOrder(left, ordered, given);
    }

    private void orderByRests(int[] ballots) {
        for (int i = 0; i < listCount; i++) {
            if (ballots[i] > 0) {
                int place = countAhead(i, ballots);
                order[place] = i;
            }
        }
    }

    private int countAhead(int i, int[] ballots) {
        int count = 0;
        for (int j = 0; j < listCount; j++) {
            boolean ahead = rests[j] > rests[i] || rests[j] == rests[i] && j < i;
            if (ballots[j] > 0 && ahead) {
                count++;
            }
        }
        return count;
    }

    private void giveInOrder(int left, int ordered, int[] given) {
        if (ordered <= 0) {
            return;
        }
        for (int s = 0; s < left; s++) {
            given[order[s % ordered]]++;
        }
    }
}

import java.util.Arrays;

// The sentences of the document's 'Terms' that name a boundary case, each with a test of its own.
// What a refused call answers, and that it changes nothing, stands in RefusalsTest.
public final class TermsEdgesTest {
    private static final int BAD_ARG = -1;
    private static final int FULL = -2;

    private static int wrong = 0;
    private static String sentence = "";

    public static void main(String[] args) {
        upToSixListsNumberedFromZero();
        votesFromZeroTo999();
        seatsFromZeroTo30();
        noVotesNoSeat();
        noVotesLeftNoSeat();
        noListWithVotesNoSeats();
        zeroSeatsNoSeats();
        elseAllSeatsAreGiven();
        divisorsOfTheRules();
        quotientsAreExact();
        firstQuotientsAboveAllOthers();
        firstQuotientsAmongThemselves();
        equalFirstQuotients();
        equalQuotientsOfTheLesserNumberFirst();
        equalQuotientsOfRule3();
        equalQuotientsOfSixLists();
        quotaOfRule5IsExact();
        quotaOfRule6IsAboveTheFraction();
        quotaOfRule6IsAtLeastOne();
        quotaGoesIntoTheVotesWhole();
        greaterRestFirst();
        equalRestsOfTheLesserNumberFirst();
        onlyListsWithVotesAreInTheOrder();
        fromTheFirstOneOnAgain();
        fromTheFirstOneOnAgainByRests();
        the512thCallIsAnsweredToo();
        System.out.println(wrong == 0 ? "all answers are as due" : wrong + " answers are not as due");
        if (wrong != 0) {
            System.exit(1);
        }
    }

    private static void says(String words) {
        sentence = words;
    }

    private static void due(String call, int got, int want) {
        if (got != want) {
            wrong++;
            System.out.println("'" + sentence + "': " + call + " answered " + got + ", due is " + want);
        }
    }

    private static SeatShares with(int seats, int... votes) {
        SeatShares x = new SeatShares();
        for (int v : votes) {
            x.list(v);
        }
        x.seats(seats);
        return x;
    }

    private static String told(int seats, int... votes) {
        StringBuilder text = new StringBuilder(seats + " seats, votes");
        for (int v : votes) {
            text.append(' ').append(v);
        }
        return text.toString();
    }

    private static void dueShares(String where, SeatShares x, int rule, int... want) {
        for (int i = 0; i < want.length; i++) {
            due(where + ": share(" + rule + ", " + i + ")", x.share(rule, i), want[i]);
        }
    }

    private static void dueSharesOfTwo(int rule, int seats, int v, int w, int want, int otherWant) {
        dueShares(told(seats, v, w), with(seats, v, w), rule, want, otherWant);
    }

    private static int[] only(int value, int length) {
        int[] all = new int[length];
        Arrays.fill(all, value);
        return all;
    }

    private static void upToSixListsNumberedFromZero() {
        says("There are up to 6 LISTS, numbered from 0 on");
        SeatShares x = with(6);
        for (int n = 0; n < 6; n++) {
            due("share(0, " + n + ") of " + n + " lists", x.share(0, n), BAD_ARG);
            due("list(" + (n + 1) + ")", x.list(n + 1), n);
            due("share(0, " + n + ") of " + (n + 1) + " lists", x.share(0, n) == BAD_ARG ? 0 : 1, 1);
            due("vote(" + n + ", 1)", x.vote(n, 1), n + 1);
        }
        due("a seventh list", x.list(7), FULL);
        due("share(0, 6)", x.share(0, 6), BAD_ARG);
        due("lists()", x.lists(), 6);
    }

    private static void votesFromZeroTo999() {
        says("each with VOTES from 0 to 999");
        SeatShares x = with(0, 0, 999);
        due("votes()", x.votes(), 999);
        due("vote(0, 999)", x.vote(0, 999), 0);
        due("vote(1, 0)", x.vote(1, 0), 999);
        due("vote(0, 1000)", x.vote(0, 1000), BAD_ARG);
        due("vote(1, -1)", x.vote(1, -1), BAD_ARG);
        due("votes()", x.votes(), 999);
        due("six times 999", with(0, only(999, 6)).votes(), 5994);
    }

    private static void seatsFromZeroTo30() {
        says("and a number of SEATS, 0 to 30");
        SeatShares x = with(0, 5);
        for (int n = 0; n <= 30; n++) {
            x.seats(n);
            for (int rule = 0; rule <= 6; rule++) {
                due("share(" + rule + ", 0) of " + n + " seats", x.share(rule, 0), n);
            }
        }
        due("seats(31)", x.seats(31), BAD_ARG);
        due("seats(-1)", x.seats(-1), BAD_ARG);
        due("seats(30)", x.seats(30), 30);
    }

    // Five equal lists get six of 30 seats each, wherever the list without votes stands.
    private static void noVotesNoSeat() {
        says("A list without votes gets no seat under any rule");
        int[] eachHas = {1, 7, 999};
        for (int v : eachHas) {
            for (int empty = 0; empty < 6; empty++) {
                int[] votes = only(v, 6);
                votes[empty] = 0;
                SeatShares x = with(30, votes);
                for (int rule = 0; rule <= 6; rule++) {
                    int[] want = only(6, 6);
                    want[empty] = 0;
                    dueShares(told(30, votes), x, rule, want);
                }
            }
        }
    }

    private static void noVotesLeftNoSeat() {
        says("A list without votes gets no seat under any rule");
        SeatShares voted = with(30, 9, 9);
        voted.vote(0, 0);
        SeatShares joined = with(30, 9, 9);
        joined.join(1, 0);
        SeatShares barred = with(30, 9, 99);
        barred.bar(10);
        for (int rule = 0; rule <= 6; rule++) {
            dueShares("after vote(0, 0)", voted, rule, 0, 30);
            dueShares("after join(1, 0)", joined, rule, 0, 30);
            dueShares("after bar(10)", barred, rule, 0, 30);
        }
    }

    private static void noListWithVotesNoSeats() {
        says("where no list has votes .. no seats are given");
        for (int seats = 0; seats <= 30; seats += 15) {
            for (int n = 0; n <= 6; n++) {
                dueNoSeatsGiven(told(seats, only(0, n)), with(seats, only(0, n)), n);
            }
        }
    }

    private static void zeroSeatsNoSeats() {
        says("or there are 0 seats, no seats are given");
        dueNoSeatsGiven("one vote", with(0, 1), 1);
        dueNoSeatsGiven("999 votes", with(0, 999), 1);
        dueNoSeatsGiven("six lists", with(0, 1, 2, 0, 999, 999, 500), 6);
        SeatShares x = with(30, 4, 5);
        x.seats(0);
        dueNoSeatsGiven("0 seats again", x, 2);
    }

    private static void dueNoSeatsGiven(String where, SeatShares x, int lists) {
        for (int rule = 0; rule <= 6; rule++) {
            dueShares(where, x, rule, only(0, lists));
            due(where + ": majority(" + rule + ")", x.majority(rule), 0);
            due(where + ": outside(" + rule + ")", x.outside(rule), 0);
            due(where + ": moved(" + rule + ", 3)", x.moved(rule, 3), 0);
        }
    }

    private static void elseAllSeatsAreGiven() {
        says("Else all seats are given, by the RULE");
        int[][] some = {{1}, {999}, {0, 1}, {1, 1}, {1, 999}, {999, 998}, {0, 2, 0, 1}, {6, 6, 2}, {31, 30, 1},
            {1, 1, 1, 1, 1, 1}, {999, 999, 999, 999, 999, 999}, {999, 1, 1, 1, 1, 1}, {340, 280, 160, 60, 15, 12}};
        for (int[] votes : some) {
            for (int seats = 1; seats <= 30; seats++) {
                SeatShares x = with(seats, votes);
                for (int rule = 0; rule <= 6; rule++) {
                    int given = 0;
                    for (int i = 0; i < votes.length; i++) {
                        given += x.share(rule, i);
                    }
                    due(told(seats, votes) + ": seats given by rule " + rule, given, seats);
                }
            }
        }
    }

    // The divisors of rule 3 go with the squares of the votes; those of rules 3 and 4 for k = 0 are not asked for.
    private static int divisor(int rule, int k) {
        int[][] divisors = {
            {1, 2, 3, 4, 5, 6, 7, 8, 9, 10, 11, 12, 13, 14, 15, 16, 17, 18, 19, 20, 21, 22, 23, 24, 25, 26, 27, 28, 29,
                30},
            {1, 3, 5, 7, 9, 11, 13, 15, 17, 19, 21, 23, 25, 27, 29, 31, 33, 35, 37, 39, 41, 43, 45, 47, 49, 51, 53, 55,
                57, 59},
            {7, 15, 25, 35, 45, 55, 65, 75, 85, 95, 105, 115, 125, 135, 145, 155, 165, 175, 185, 195, 205, 215, 225,
                235, 245, 255, 265, 275, 285, 295},
            {0, 2, 6, 12, 20, 30, 42, 56, 72, 90, 110, 132, 156, 182, 210, 240, 272, 306, 342, 380, 420, 462, 506, 552,
                600, 650, 702, 756, 812, 870},
            {0, 1, 2, 3, 4, 5, 6, 7, 8, 9, 10, 11, 12, 13, 14, 15, 16, 17, 18, 19, 20, 21, 22, 23, 24, 25, 26, 27, 28,
                29}};
        return divisors[rule][k];
    }

    // With 999 votes of list 1 the last seat goes to quotient k of list 0 from some number of its votes on.
    private static void divisorsOfTheRules() {
        says("each list with v votes has a QUOTIENT for each k = 0, 1, 2, ..");
        for (int rule = 0; rule <= 4; rule++) {
            int least = rule <= 2 ? 0 : 1;
            for (int l = least; l <= 29 - least; l++) {
                for (int k = least; k <= l && k + l + 1 <= 30; k++) {
                    int enough = leastWithQuotientOf(rule, k, 999, l);
                    dueSharesOfTwo(rule, k + l + 1, enough, 999, k + 1, l);
                    dueSharesOfTwo(rule, k + l + 1, enough - 1, 999, k, l + 1);
                }
            }
        }
    }

    private static int leastWithQuotientOf(int rule, int k, int votes, int l) {
        for (int v = 1; v < 1000; v++) {
            long own = (long) (rule == 3 ? v * v : v) * divisor(rule, l);
            long other = (long) (rule == 3 ? votes * votes : votes) * divisor(rule, k);
            if (own >= other) {
                return v;
            }
        }
        return 1000;
    }

    // As whole numbers, rounded down, the last quotients of most of these would be equal, and go to list 0.
    private static void quotientsAreExact() {
        says("(Exact fractions.)");
        dueSharesOfTwo(0, 29, 998, 999, 14, 15);
        dueSharesOfTwo(0, 3, 2, 3, 1, 2);
        dueSharesOfTwo(1, 29, 998, 999, 14, 15);
        dueSharesOfTwo(1, 2, 1, 4, 0, 2);
        dueSharesOfTwo(2, 29, 998, 999, 14, 15);
        dueSharesOfTwo(2, 1, 1, 2, 0, 1);
        dueSharesOfTwo(3, 29, 998, 999, 14, 15);
        dueSharesOfTwo(3, 4, 1, 2, 1, 3);
        dueSharesOfTwo(4, 29, 998, 999, 14, 15);
        dueSharesOfTwo(4, 5, 2, 3, 2, 3);
    }

    private static void firstQuotientsAboveAllOthers() {
        says("For rules 3 and 4 the quotients for k = 0 are greater than all quotients for other k");
        for (int rule = 3; rule <= 4; rule++) {
            dueShares("6 seats", with(6, 1, 1, 1, 1, 1, 999), rule, 1, 1, 1, 1, 1, 1);
            dueShares("7 seats", with(7, 1, 1, 1, 1, 1, 999), rule, 1, 1, 1, 1, 1, 2);
            dueShares("30 seats", with(30, 1, 1, 1, 1, 1, 999), rule, 1, 1, 1, 1, 1, 25);
            dueShares("the greatest list first", with(6, 999, 1, 1, 1, 1, 1), rule, 1, 1, 1, 1, 1, 1);
            dueShares("a list without votes has none", with(3, 999, 0, 1), rule, 2, 0, 1);
            due("next seat after 1", with(1, 999, 1).next(rule), 1);
            due("next seat after 2", with(2, 999, 1).next(rule), 0);
        }
    }

    private static void firstQuotientsAmongThemselves() {
        says("and among themselves the one of the list with more votes is the greater one");
        for (int rule = 3; rule <= 4; rule++) {
            for (int seats = 0; seats <= 6; seats++) {
                SeatShares rising = with(seats, 994, 995, 996, 997, 998, 999);
                SeatShares falling = with(seats, 6, 5, 4, 3, 2, 1);
                for (int i = 0; i < 6; i++) {
                    due("rising, " + seats + " seats: share(" + rule + ", " + i + ")", rising.share(rule, i),
                        i >= 6 - seats ? 1 : 0);
                    due("falling, " + seats + " seats: share(" + rule + ", " + i + ")", falling.share(rule, i),
                        i < seats ? 1 : 0);
                }
            }
        }
    }

    private static void equalFirstQuotients() {
        says("of equal ones those of lists with lesser numbers first");
        for (int rule = 3; rule <= 4; rule++) {
            for (int seats = 0; seats <= 6; seats++) {
                SeatShares x = with(seats, only(8, 6));
                for (int i = 0; i < 6; i++) {
                    due("equal lists, " + seats + " seats: share(" + rule + ", " + i + ")", x.share(rule, i),
                        i < seats ? 1 : 0);
                }
            }
            dueShares("two equal pairs", with(3, 1, 9, 1, 9), rule, 1, 1, 0, 1);
            dueShares("two equal pairs", with(1, 1, 9, 1, 9), rule, 0, 1, 0, 0);
        }
    }

    // Votes in the proportion of two divisors make quotients k and l equal; a vote more or fewer parts them.
    private static void equalQuotientsOfTheLesserNumberFirst() {
        says("of equal ones those of lists with lesser numbers first");
        int[] rules = {0, 1, 2, 4};
        for (int rule : rules) {
            int least = rule == 4 ? 1 : 0;
            for (int k = least; k <= 29 - least; k++) {
                for (int l = least; k + l + 1 <= 30; l++) {
                    int v = 3 * divisor(rule, k);
                    int w = 3 * divisor(rule, l);
                    dueSharesOfTwo(rule, k + l + 1, v, w, k + 1, l);
                    dueSharesOfTwo(rule, k + l + 1, v - 1, w, k, l + 1);
                    dueSharesOfTwo(rule, k + l + 1, v, w + 1, k, l + 1);
                    due(told(k + l, v, w) + ": next(" + rule + ")", with(k + l, v, w).next(rule), 0);
                }
            }
        }
    }

    // 1 * 2 and 8 * 9 are as 1 and 36, 2 * 3 and 24 * 25 as 1 and 100: there votes as 1 and 6, as 1 and 10 are equal.
    private static void equalQuotientsOfRule3() {
        says("of equal ones those of lists with lesser numbers first");
        dueSharesOfTwo(3, 10, 100, 600, 2, 8);
        dueSharesOfTwo(3, 10, 99, 600, 1, 9);
        dueSharesOfTwo(3, 10, 100, 601, 1, 9);
        dueSharesOfTwo(3, 10, 600, 100, 9, 1);
        dueSharesOfTwo(3, 10, 599, 100, 8, 2);
        dueSharesOfTwo(3, 10, 600, 101, 8, 2);
        dueSharesOfTwo(3, 27, 99, 990, 3, 24);
        dueSharesOfTwo(3, 27, 98, 990, 2, 25);
        dueSharesOfTwo(3, 27, 990, 99, 25, 2);
        dueSharesOfTwo(3, 27, 989, 99, 24, 3);
        dueSharesOfTwo(3, 29, 700, 700, 15, 14);
    }

    private static void equalQuotientsOfSixLists() {
        says("of equal ones those of lists with lesser numbers first");
        for (int seats = 0; seats <= 30; seats++) {
            SeatShares x = with(seats, only(999, 6));
            for (int rule = 0; rule <= 4; rule++) {
                for (int i = 0; i < 6; i++) {
                    int want = seats / 6 + (i < seats % 6 ? 1 : 0);
                    due(seats + " seats: share(" + rule + ", " + i + ")", x.share(rule, i), want);
                }
            }
        }
    }

    // A quota of 59 / 30 leaves 58 / 30 of 57 votes and 30 / 30 of one; a quota of 2 would leave 1 of each.
    private static void quotaOfRule5IsExact() {
        says("the QUOTA is V / S for rule 5 (an exact fraction)");
        dueShares("59 votes, 30 seats", with(30, 1, 1, 57), 5, 1, 0, 29);
        dueShares("1997 votes, 3 seats", with(3, 998, 999), 5, 1, 2);
        dueShares("one seat, the quota is all votes", with(1, 1, 2), 5, 0, 1);
        dueShares("one seat for all votes", with(1, 0, 999), 5, 0, 1);
        dueShares("fewer votes than seats", with(30, 1, 1), 5, 15, 15);
        dueShares("fewer votes than seats", with(29, 1, 2), 5, 10, 19);
        dueShares("5994 votes, 30 seats", with(30, only(999, 6)), 5, 5, 5, 5, 5, 5, 5);
    }

    // 100 / 5 is 20 and 101 / 5 is more than 20: the quota is 21 for both, and 21 still for 104, but 22 for 105.
    private static void quotaOfRule6IsAboveTheFraction() {
        says("for rule 6 the whole number that V / (S + 1), rounded down, is less than by one");
        dueShares("quota 21 of 100", with(4, 40, 20, 40), 6, 2, 1, 1);
        dueShares("quota 21 of 101, not 20", with(4, 20, 20, 20, 41), 6, 1, 1, 1, 1);
        dueShares("quota 21 of 101, not 22", with(4, 19, 19, 63), 6, 1, 0, 3);
        dueShares("quota 21 of 104, not 22", with(4, 20, 21, 63), 6, 0, 1, 3);
        dueShares("quota 22 of 105", with(4, 21, 21, 63), 6, 1, 1, 2);
        dueShares("quota 2 of two votes, one seat", with(1, 1, 1), 6, 1, 0);
        dueShares("quota 2 of three votes, one seat", with(1, 1, 2), 6, 0, 1);
        dueShares("quota 194 of 5994", with(30, only(999, 6)), 6, 5, 5, 5, 5, 5, 5);
    }

    // 30 votes and 30 seats make a quota of 1, and 31 votes make one of 2.
    private static void quotaOfRule6IsAtLeastOne() {
        says("for rule 6 the whole number that V / (S + 1), rounded down, is less than by one");
        dueShares("quota 1 of 30", with(30, 14, 16), 6, 14, 16);
        dueShares("quota 2 of 31", with(30, 14, 17), 6, 14, 16);
        dueShares("quota 1 of 1", with(30, 0, 1), 6, 0, 30);
        dueShares("quota 1 of 1, one seat", with(1, 0, 1), 6, 0, 1);
    }

    private static void quotaGoesIntoTheVotesWhole() {
        says("First, each list gets as many seats as the quota goes into its votes whole");
        dueShares("rule 5, quota 3: 2, 1 and 1 whole", with(4, 6, 3, 3), 5, 2, 1, 1);
        dueShares("rule 5, quota 3: 2, 0 and 1 whole, rests 0, 2 and 1", with(4, 6, 2, 4), 5, 2, 1, 1);
        dueShares("rule 6, quota 21: 2, 1 and 0 whole, rests 0, 20 and 20", with(4, 42, 41, 20), 6, 2, 2, 0);
        dueShares("rule 6, quota 21: 1, 1 and 0 whole, rests 20, 20 and 20", with(4, 41, 41, 20), 6, 2, 2, 0);
        dueShares("rule 6, quota 21: 1, 1 and 0 whole, rests 19, 20 and 20", with(4, 40, 41, 20), 6, 1, 2, 1);
    }

    private static void greaterRestFirst() {
        says("put in order by what is left of their votes, the greater rest first");
        dueShares("rule 5, rests 4, 4 and 6 tenths", with(10, 6, 6, 2), 5, 4, 4, 2);
        dueShares("rule 5, rests 997 and 1000 thirds", with(3, 998, 999), 5, 1, 2);
        dueShares("rule 6, quota 3, rests 1, 0 and 2", with(3, 4, 3, 2), 6, 1, 1, 1);
        dueShares("rule 6, quota 21, rests 18, 20 and 20", with(4, 39, 41, 20), 6, 1, 2, 1);
        dueShares("rule 6, quota 21, rests 20, 18 and 20", with(4, 41, 39, 20), 6, 2, 1, 1);
        dueShares("rule 6, quota 21, rests 19, 20 and 19", with(4, 40, 41, 19), 6, 2, 2, 0);
    }

    private static void equalRestsOfTheLesserNumberFirst() {
        says("of equal ones the lesser number first");
        dueShares("rule 5, equal lists", with(3, 999, 999), 5, 2, 1);
        dueShares("rule 5, rests 1, 1 and 1 of a quota of 3", with(2, 1, 1, 4), 5, 1, 0, 1);
        dueShares("rule 5, rests 1, 1 and 1 of a quota of 3", with(2, 4, 1, 1), 5, 2, 0, 0);
        dueShares("rule 6, equal lists", with(3, 4, 4), 6, 2, 1);
        dueShares("rule 6, rests 20, 20 and 20 of a quota of 21", with(4, 20, 41, 41), 6, 1, 2, 1);
        dueShares("rule 6, rests 20, 20 and 20 of a quota of 21", with(4, 41, 41, 20), 6, 2, 2, 0);
        for (int seats = 0; seats <= 30; seats++) {
            SeatShares x = with(seats, only(999, 6));
            for (int i = 0; i < 6; i++) {
                int want = seats / 6 + (i < seats % 6 ? 1 : 0);
                due(seats + " seats: share(5, " + i + ")", x.share(5, i), want);
                due(seats + " seats: share(6, " + i + ")", x.share(6, i), want);
            }
        }
    }

    private static void onlyListsWithVotesAreInTheOrder() {
        says("Then the lists that have votes are put in order");
        dueShares("rule 6, quota 1, no rests", with(5, 0, 1, 0, 1, 0), 6, 0, 3, 0, 2, 0);
        dueShares("rule 6, quota 1, no rests", with(30, 0, 2, 0, 1), 6, 0, 16, 0, 14);
        dueShares("rule 6, quota 1, the last ones without votes", with(4, 1, 0, 0), 6, 4, 0, 0);
        dueShares("rule 5, quota 10 / 3", with(3, 0, 5, 5), 5, 0, 2, 1);
    }

    // Three lists with one vote each have a quota of 1 and no rests.
    private static void fromTheFirstOneOnAgain() {
        says("and, behind the last one, from the first one on again");
        dueShares("up to the second of three", with(5, 1, 1, 1), 6, 2, 2, 1);
        dueShares("up to the last of three", with(6, 1, 1, 1), 6, 2, 2, 2);
        dueShares("the first of three again", with(7, 1, 1, 1), 6, 3, 2, 2);
        dueShares("the last of three again", with(9, 1, 1, 1), 6, 3, 3, 3);
        dueShares("the first of three a third time", with(10, 1, 1, 1), 6, 4, 3, 3);
        dueShares("a sole list 29 times more", with(30, 1), 6, 30);
        dueShares("six lists", with(30, only(1, 6)), 6, 5, 5, 5, 5, 5, 5);
        dueShares("six lists", with(13, only(1, 6)), 6, 3, 2, 2, 2, 2, 2);
        dueShares("27 seats for two lists in turn", with(30, 2, 1), 6, 16, 14);
        dueShares("27 seats for two lists in turn", with(30, 1, 2), 6, 15, 15);
    }

    // Quota 2: with 16 and 15 votes 8 and 7 whole, and the rest of 1 is the first one in each turn.
    private static void fromTheFirstOneOnAgainByRests() {
        says("given one by one in this order, and, behind the last one, from the first one on again");
        dueShares("15 seats, list 1 first", with(30, 16, 15), 6, 15, 15);
        dueShares("15 seats, list 0 first", with(30, 15, 16), 6, 15, 15);
        dueShares("15 seats, list 2 first", with(30, 14, 14, 3), 6, 12, 12, 6);
        dueShares("14 seats, list 2 first, then list 0", with(29, 14, 14, 3), 6, 12, 11, 6);
        dueShares("13 seats, list 2 first", with(28, 14, 14, 3), 6, 11, 11, 6);
        dueShares("two lists in the order, 29 seats of 30 votes", with(29, 13, 17), 6, 14, 15);
    }

    private static void the512thCallIsAnsweredToo() {
        says("An object is used for at most 512 calls after it has been made");
        SeatShares x = with(7, 60, 30, 9);
        // Four calls have been made; these are the 507 up to the last but one.
        for (int call = 5; call <= 511; call++) {
            int rule = call % 5;
            if (call % 2 == 0) {
                due("list(-1)", x.list(-1), BAD_ARG);
            } else {
                due("next(" + rule + ")", x.next(rule), with(7, 60, 30, 9).next(rule));
            }
        }
        due("the 512th call, missing(0, 2)", x.missing(0, 2), with(7, 60, 30, 9).missing(0, 2));
    }
}

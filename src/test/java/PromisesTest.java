// Every promise of the document with fixed answers: ordinary inputs, the edges that it names, and wrong inputs.
// The larger tables were worked out by a script with exact fractions, apart from the class; it is not kept here.
public final class PromisesTest {
    private static final int BAD_ARG = -1;
    private static final int FULL = -2;
    private static final int NONE = -4;
    private static final int MIN = Integer.MIN_VALUE;
    private static final int MAX = Integer.MAX_VALUE;
    private static final int[] NOT_RULES = {-1, 7, 8, MIN, MAX};

    private static int wrong = 0;

    public static void main(String[] args) {
        promise1NewObject();
        promise2List();
        promise3Vote();
        promise4Join();
        promise5Seats();
        promise6Bar();
        promise7Lists();
        promise8Votes();
        promise9ShareByEachRule();
        promise9ShareAtTheEdges();
        promise9ShareOfQuotas();
        promise9ShareRefused();
        promise10Next();
        promise11Missing();
        promise12Spare();
        promise13Fall();
        promise14Outside();
        promise15Moved();
        promise16Majority();
        questionsChangeNothing();
        System.out.println(wrong == 0 ? "all answers are as due" : wrong + " answers are not as due");
        if (wrong != 0) {
            System.exit(1);
        }
    }

    private static void due(String call, int got, int want) {
        if (got != want) {
            wrong++;
            System.out.println(call + " answered " + got + ", due is " + want);
        }
    }

    private static SeatShares with(int seats, int... votes) {
        SeatShares x = new SeatShares();
        for (int v : votes) {
            x.list(v);
        }
        x.seats(seats);
        return x;
    }

    // The votes of a list can be read by setting them, and set back.
    private static int votesOf(SeatShares x, int i) {
        int before = x.vote(i, 0);
        x.vote(i, before);
        return before;
    }

    private static int seatsOf(SeatShares x) {
        int before = x.seats(0);
        x.seats(before);
        return before;
    }

    private static void dueVotes(String where, SeatShares x, int... want) {
        due(where + ": lists()", x.lists(), want.length);
        for (int i = 0; i < want.length; i++) {
            due(where + ": votes of list " + i, votesOf(x, i), want[i]);
        }
    }

    private static void dueShares(String where, SeatShares x, int rule, int... want) {
        for (int i = 0; i < want.length; i++) {
            due(where + ": share(" + rule + ", " + i + ")", x.share(rule, i), want[i]);
        }
    }

    private static void dueSharesOfAllRules(String where, SeatShares x, int... want) {
        for (int rule = 0; rule <= 6; rule++) {
            dueShares(where, x, rule, want);
        }
    }

    private static void promise1NewObject() {
        SeatShares x = new SeatShares();
        due("1: lists()", x.lists(), 0);
        due("1: votes()", x.votes(), 0);
        due("1: seats(0)", x.seats(0), 0);
        due("1: bar(50)", x.bar(50), 0);
        due("1: vote(0, 1)", x.vote(0, 1), BAD_ARG);
        due("1: join(0, 1)", x.join(0, 1), BAD_ARG);
        for (int rule = 0; rule <= 6; rule++) {
            due("1: share(" + rule + ", 0)", x.share(rule, 0), BAD_ARG);
            due("1: next(" + rule + ")", x.next(rule), rule <= 4 ? NONE : BAD_ARG);
            due("1: missing(" + rule + ", 0)", x.missing(rule, 0), BAD_ARG);
            due("1: spare(" + rule + ", 0)", x.spare(rule, 0), BAD_ARG);
            due("1: fall(" + rule + ")", x.fall(rule), NONE);
            due("1: outside(" + rule + ")", x.outside(rule), 0);
            due("1: moved(" + rule + ", 0)", x.moved(rule, 0), 0);
            due("1: majority(" + rule + ")", x.majority(rule), 0);
        }
        SeatShares used = with(9, 5, 6);
        SeatShares other = new SeatShares();
        due("1: lists() of an object made after another", other.lists(), 0);
        due("1: votes() of an object made after another", other.votes(), 0);
        due("1: seats(3) of an object made after another", other.seats(3), 0);
        due("1: seats(9) of the first object", used.seats(9), 9);
        due("1: lists() of the first object", used.lists(), 2);
    }

    private static void promise2List() {
        SeatShares x = new SeatShares();
        int[] wrongVotes = {-1, 1000, MIN, MAX};
        for (int v : wrongVotes) {
            due("2: list(" + v + ")", x.list(v), BAD_ARG);
        }
        dueVotes("2: after refusals", x);
        due("2: list(0)", x.list(0), 0);
        due("2: list(999)", x.list(999), 1);
        due("2: list(1)", x.list(1), 2);
        due("2: list(998)", x.list(998), 3);
        due("2: list(7)", x.list(7), 4);
        due("2: list(8)", x.list(8), 5);
        due("2: list(9) when full", x.list(9), FULL);
        due("2: list(0) when full", x.list(0), FULL);
        due("2: list(999) when full", x.list(999), FULL);
        for (int v : wrongVotes) {
            due("2: list(" + v + ") when full", x.list(v), BAD_ARG);
        }
        dueVotes("2", x, 0, 999, 1, 998, 7, 8);
        due("2: seats", seatsOf(x), 0);
    }

    private static void promise3Vote() {
        SeatShares x = with(4, 10, 20, 30);
        due("3: vote(1, 999)", x.vote(1, 999), 20);
        due("3: vote(1, 0)", x.vote(1, 0), 999);
        due("3: vote(1, 25)", x.vote(1, 25), 0);
        due("3: vote(0, 11)", x.vote(0, 11), 10);
        due("3: vote(2, 31)", x.vote(2, 31), 30);
        int[] notLists = {-1, 3, 5, 6, MIN, MAX};
        for (int i : notLists) {
            due("3: vote(" + i + ", 5)", x.vote(i, 5), BAD_ARG);
        }
        int[] notVotes = {-1, 1000, MIN, MAX};
        for (int v : notVotes) {
            due("3: vote(1, " + v + ")", x.vote(1, v), BAD_ARG);
        }
        dueVotes("3", x, 11, 25, 31);
        due("3: seats", seatsOf(x), 4);
        SeatShares full = with(0, 1, 2, 3, 4, 5, 6);
        due("3: vote(5, 60)", full.vote(5, 60), 6);
        due("3: vote(6, 70)", full.vote(6, 70), BAD_ARG);
        dueVotes("3: full", full, 1, 2, 3, 4, 5, 60);
    }

    private static void promise4Join() {
        SeatShares x = with(7, 10, 20, 30, 0);
        due("4: join(0, 2)", x.join(0, 2), 40);
        dueVotes("4: join(0, 2)", x, 40, 20, 0, 0);
        due("4: join(1, 0)", x.join(1, 0), 60);
        dueVotes("4: join(1, 0)", x, 0, 60, 0, 0);
        due("4: join(1, 3), nothing to get", x.join(1, 3), 60);
        due("4: join(0, 2), both without votes", x.join(0, 2), 0);
        due("4: join(3, 1)", x.join(3, 1), 60);
        dueVotes("4: join(3, 1)", x, 0, 0, 0, 60);
        int[] notLists = {-1, 4, 6, MIN, MAX};
        for (int i : notLists) {
            due("4: join(" + i + ", 3)", x.join(i, 3), BAD_ARG);
            due("4: join(3, " + i + ")", x.join(3, i), BAD_ARG);
        }
        due("4: join(3, 3)", x.join(3, 3), BAD_ARG);
        due("4: join(0, 0)", x.join(0, 0), BAD_ARG);
        due("4: join(9, 9)", x.join(9, 9), BAD_ARG);
        dueVotes("4: after refusals", x, 0, 0, 0, 60);
        due("4: seats", seatsOf(x), 7);
        SeatShares just = with(0, 500, 499);
        due("4: 500 and 499", just.join(0, 1), 999);
        dueVotes("4: 500 and 499", just, 999, 0);
        SeatShares above = with(0, 500, 500);
        due("4: 500 and 500", above.join(1, 0), 999);
        dueVotes("4: 500 and 500", above, 0, 999);
        SeatShares most = with(0, 999, 999);
        due("4: 999 and 999", most.join(0, 1), 999);
        dueVotes("4: 999 and 999", most, 999, 0);
        due("4: back again", most.join(1, 0), 999);
        dueVotes("4: back again", most, 0, 999);
    }

    private static void promise5Seats() {
        SeatShares x = with(0, 10);
        due("5: seats(30)", x.seats(30), 0);
        due("5: seats(0)", x.seats(0), 30);
        due("5: seats(17)", x.seats(17), 0);
        int[] notSeats = {-1, 31, MIN, MAX};
        for (int n : notSeats) {
            due("5: seats(" + n + ")", x.seats(n), BAD_ARG);
        }
        due("5: seats(17) again", x.seats(17), 17);
        dueSharesOfAllRules("5: the sole list", x, 17);
        dueVotes("5", x, 10);
    }

    private static void promise6Bar() {
        SeatShares edge = with(3, 5, 95);
        due("6: bar(5), just reached", edge.bar(5), 2);
        dueVotes("6: bar(5)", edge, 5, 95);
        due("6: bar(6)", edge.bar(6), 1);
        dueVotes("6: bar(6)", edge, 0, 95);
        due("6: seats", seatsOf(edge), 3);
        SeatShares thirds = with(0, 1, 2);
        due("6: a third against 33", thirds.bar(33), 2);
        due("6: a third against 34", thirds.bar(34), 1);
        dueVotes("6: a third against 34", thirds, 0, 2);
        SeatShares atOnce = with(0, 10, 10, 80);
        due("6: all at the same time", atOnce.bar(11), 1);
        dueVotes("6: all at the same time", atOnce, 0, 0, 80);
        SeatShares none = with(0, 0, 1, 999);
        due("6: bar(0)", none.bar(0), 2);
        dueVotes("6: bar(0)", none, 0, 1, 999);
        due("6: bar(1)", none.bar(1), 1);
        due("6: bar(100), one list with votes", none.bar(100), 1);
        dueVotes("6: bar(100), one list with votes", none, 0, 0, 999);
        SeatShares two = with(0, 1, 999, 0);
        due("6: bar(100), two lists with votes", two.bar(100), 0);
        dueVotes("6: bar(100), two lists with votes", two, 0, 0, 0);
        due("6: bar(100), no votes", two.bar(100), 0);
        SeatShares most = with(0, 999, 999, 999, 999, 999, 999);
        due("6: a sixth against 16", most.bar(16), 6);
        due("6: a sixth against 17", most.bar(17), 0);
        due("6: votes()", most.votes(), 0);
        due("6: lists()", most.lists(), 6);
        SeatShares refused = with(0, 1, 99);
        int[] notHundredths = {-1, 101, MIN, MAX};
        for (int p : notHundredths) {
            due("6: bar(" + p + ")", refused.bar(p), BAD_ARG);
        }
        dueVotes("6: after refusals", refused, 1, 99);
    }

    private static void promise7Lists() {
        SeatShares x = new SeatShares();
        for (int n = 0; n < 6; n++) {
            due("7: lists()", x.lists(), n);
            x.list(n);
        }
        due("7: lists()", x.lists(), 6);
        x.list(1);
        due("7: lists() when full", x.lists(), 6);
        x.join(0, 1);
        x.bar(100);
        due("7: lists() without votes", x.lists(), 6);
    }

    private static void promise8Votes() {
        SeatShares x = with(12, 0, 999, 3);
        due("8: votes()", x.votes(), 1002);
        x.vote(1, 1);
        due("8: votes() after vote", x.votes(), 4);
        x.join(0, 2);
        due("8: votes() after join", x.votes(), 4);
        x.bar(50);
        due("8: votes() after bar", x.votes(), 3);
        due("8: the greatest sum", with(0, 999, 999, 999, 999, 999, 999).votes(), 5994);
    }

    private static void promise9ShareByEachRule() {
        SeatShares x = with(11, 3, 20, 6, 60, 15);
        dueShares("9", x, 0, 0, 2, 0, 8, 1);
        dueShares("9", x, 1, 0, 2, 1, 6, 2);
        dueShares("9", x, 2, 0, 2, 0, 7, 2);
        dueShares("9", x, 3, 1, 2, 1, 6, 1);
        dueShares("9", x, 4, 1, 2, 1, 5, 2);
        dueShares("9", x, 5, 0, 2, 1, 6, 2);
        dueShares("9", x, 6, 0, 2, 1, 7, 1);
        x.seats(30);
        dueShares("9: 30 seats", x, 0, 0, 6, 1, 19, 4);
        dueShares("9: 30 seats", x, 3, 1, 6, 2, 17, 4);
        dueShares("9: 30 seats", x, 5, 1, 6, 2, 17, 4);
        dueShares("9: 30 seats", x, 6, 2, 6, 2, 16, 4);
        SeatShares six = with(7, 340, 280, 160, 60, 15, 12);
        dueShares("9: six lists", six, 0, 3, 3, 1, 0, 0, 0);
        dueShares("9: six lists", six, 1, 3, 2, 1, 1, 0, 0);
        dueShares("9: six lists", six, 2, 3, 3, 1, 0, 0, 0);
        dueShares("9: six lists", six, 3, 2, 1, 1, 1, 1, 1);
        dueShares("9: six lists", six, 4, 2, 1, 1, 1, 1, 1);
        dueShares("9: six lists", six, 5, 3, 2, 1, 1, 0, 0);
        dueShares("9: six lists", six, 6, 3, 3, 1, 0, 0, 0);
    }

    private static void promise9ShareAtTheEdges() {
        dueSharesOfAllRules("9: equal lists", with(5, 7, 7, 7), 2, 2, 1);
        dueSharesOfAllRules("9: lists without votes", with(3, 0, 5, 0, 5), 0, 2, 0, 1);
        dueSharesOfAllRules("9: no votes at all", with(5, 0, 0), 0, 0);
        dueSharesOfAllRules("9: no seats", with(0, 5, 9), 0, 0);
        dueSharesOfAllRules("9: one seat", with(1, 3, 9, 9), 0, 1, 0);
        dueSharesOfAllRules("9: the sole vote", with(30, 0, 1), 0, 30);
        dueSharesOfAllRules("9: all that there can be", with(30, 999, 999, 999, 999, 999, 999), 5, 5, 5, 5, 5, 5);
        dueSharesOfAllRules("9: one seat short", with(29, 999, 999, 999, 999, 999, 999), 5, 5, 5, 5, 5, 4);
        // Fewer seats than lists: the first quotients of rules 3 and 4 are taken by votes, then by number.
        SeatShares few = with(3, 1, 9, 4, 9, 4);
        dueShares("9: few seats", few, 3, 0, 1, 1, 1, 0);
        dueShares("9: few seats", few, 4, 0, 1, 1, 1, 0);
        // A first quotient goes before the second one of the greatest list.
        SeatShares first = with(2, 1, 999);
        dueShares("9: first quotients", first, 3, 1, 1);
        dueShares("9: first quotients", first, 4, 1, 1);
        // Equal quotients of unequal lists: 20 / 2 and 10 / 1; 30 / 3 and 10 / 1; 15 / 15 and 7 / 7; 20 / 2 and 10 / 1.
        dueShares("9: rule 0, equal quotients", with(2, 10, 20), 0, 1, 1);
        dueShares("9: rule 0, equal quotients", with(2, 20, 10), 0, 2, 0);
        dueShares("9: rule 1, equal quotients", with(2, 10, 30), 1, 1, 1);
        dueShares("9: rule 1, equal quotients", with(2, 30, 10), 1, 2, 0);
        dueShares("9: rule 2, equal quotients", with(2, 7, 15), 2, 1, 1);
        dueShares("9: rule 2, equal quotients", with(2, 15, 7), 2, 2, 0);
        dueShares("9: rule 4, equal quotients", with(4, 10, 20), 4, 2, 2);
        dueShares("9: rule 4, equal quotients", with(4, 20, 10), 4, 3, 1);
        // Only exact fractions tell the quotients 998 / 15 and 999 / 15 apart.
        dueShares("9: close quotients", with(30, 998, 999), 0, 15, 15);
        dueShares("9: close quotients", with(29, 998, 999), 0, 14, 15);
        dueShares("9: close quotients", with(29, 998, 999), 3, 14, 15);
    }

    private static void promise9ShareOfQuotas() {
        // Rule 5: quota 14 / 10, rests 4, 4 and 6 tenths; then quota 14 / 11, rests 10, 10 and 8 elevenths.
        dueShares("9: rule 5, rests", with(10, 6, 6, 2), 5, 4, 4, 2);
        dueShares("9: rule 5, rests", with(11, 6, 6, 2), 5, 5, 5, 1);
        // Rule 6: 100 / 5 is 20, so the quota is 21: 2, 1 and 0 whole, rests 18, 4 and 15.
        dueShares("9: rule 6, the quota is above the fraction", with(4, 60, 25, 15), 6, 3, 1, 0);
        // Rule 6: the quota of 1 leaves 27 seats for two lists without rests, in turn.
        dueShares("9: rule 6, from the first one on again", with(30, 2, 1), 6, 16, 14);
        dueShares("9: rule 6, from the first one on again", with(30, 1, 2), 6, 15, 15);
        dueShares("9: rule 6, lists without votes are left out", with(30, 0, 2, 0, 1), 6, 0, 16, 0, 14);
        // Rule 6: 9 / 4 is 2, so the quota is 3: 1, 1 and 0 whole, rests 1, 0 and 2.
        dueShares("9: rule 6, the greater rest first", with(3, 4, 3, 2), 6, 1, 1, 1);
        dueShares("9: rule 6, equal rests", with(3, 4, 4), 6, 2, 1);
    }

    private static void promise9ShareRefused() {
        SeatShares x = with(3, 5, 6);
        for (int rule : NOT_RULES) {
            due("9: share(" + rule + ", 0)", x.share(rule, 0), BAD_ARG);
        }
        int[] notLists = {-1, 2, 5, 6, MIN, MAX};
        for (int rule = 0; rule <= 6; rule++) {
            for (int i : notLists) {
                due("9: share(" + rule + ", " + i + ")", x.share(rule, i), BAD_ARG);
            }
        }
    }

    private static void promise10Next() {
        SeatShares x = with(11, 3, 20, 6, 60, 15);
        int[] want = {4, 3, 2, 4, 3};
        for (int rule = 0; rule <= 4; rule++) {
            due("10: next(" + rule + ")", x.next(rule), want[rule]);
        }
        x.seats(0);
        for (int rule = 0; rule <= 4; rule++) {
            due("10: next(" + rule + ") after 0 seats", x.next(rule), 3);
        }
        SeatShares most = with(30, 999, 999, 999, 999, 999, 999);
        SeatShares turn = with(4, 0, 7, 7, 7);
        SeatShares none = with(4, 0, 0);
        for (int rule = 0; rule <= 4; rule++) {
            due("10: next(" + rule + ") after 30 seats", most.next(rule), 0);
            due("10: next(" + rule + ") of equal lists", turn.next(rule), 2);
            due("10: next(" + rule + ") without votes", none.next(rule), NONE);
        }
        SeatShares[] all = {x, most, turn, none};
        for (SeatShares each : all) {
            due("10: next(5)", each.next(5), BAD_ARG);
            due("10: next(6)", each.next(6), BAD_ARG);
            for (int rule : NOT_RULES) {
                due("10: next(" + rule + ")", each.next(rule), BAD_ARG);
            }
        }
    }

    private static void promise11Missing() {
        SeatShares x = with(11, 3, 20, 6, 60, 15);
        int[][] want = {{5, 3, 2, 31, 1}, {2, 5, 9, 5, 13}, {4, 4, 1, 15, 9}, {13, 7, 10, 32, 1}, {12, 10, 9, 15, 16}};
        for (int rule = 0; rule <= 4; rule++) {
            for (int i = 0; i < 5; i++) {
                due("11: missing(" + rule + ", " + i + ")", x.missing(rule, i), want[rule][i]);
            }
        }
        int[][] wantOfSix = {{34, 174, 27, 34, 79, 82}, {80, 20, 20, 145, 46, 49}, {52, 197, 9, 19, 64, 67},
            {NONE, 61, 181, 281, 326, 329}, {NONE, 61, 181, 281, 326, 329}};
        SeatShares six = with(7, 340, 280, 160, 60, 15, 12);
        for (int rule = 0; rule <= 4; rule++) {
            for (int i = 0; i < 6; i++) {
                due("11: six lists: missing(" + rule + ", " + i + ")", six.missing(rule, i), wantOfSix[rule][i]);
            }
        }
        // The second quotient of one list has to reach the first one of the other: 2997 / 3 and 999 / 1.
        due("11: 2000 votes more", with(2, 997, 999).missing(1, 0), 2000);
        due("11: 2001 votes more", with(2, 996, 999).missing(1, 0), NONE);
        due("11: 2000 votes more", with(2, 999, 998).missing(1, 1), 2000);
        due("11: 2001 votes more", with(2, 999, 997).missing(1, 1), NONE);
        due("11: equal is enough for the lesser number", with(1, 0, 10).missing(0, 0), 10);
        due("11: equal is not enough for the greater number", with(1, 10, 0).missing(0, 1), 11);
        for (int rule = 0; rule <= 4; rule++) {
            due("11: no votes at all, rule " + rule, with(1, 0, 0).missing(rule, 1), 1);
            due("11: no seats, rule " + rule, with(0, 5, 6).missing(rule, 0), NONE);
            due("11: it has all seats, rule " + rule, with(4, 5, 0).missing(rule, 0), NONE);
            due("11: a list not there, rule " + rule, x.missing(rule, 5), BAD_ARG);
            due("11: a list not there, rule " + rule, x.missing(rule, -1), BAD_ARG);
            due("11: a list not there, rule " + rule, x.missing(rule, MAX), BAD_ARG);
            due("11: a list not there, rule " + rule, x.missing(rule, MIN), BAD_ARG);
        }
        due("11: a first seat is never lost to a second one", with(2, 9, 9).missing(3, 0), NONE);
        due("11: a first seat is never lost to a second one", with(2, 9, 9).missing(4, 0), NONE);
        due("11: missing(5, 0)", x.missing(5, 0), BAD_ARG);
        due("11: missing(6, 0)", x.missing(6, 0), BAD_ARG);
        for (int rule : NOT_RULES) {
            due("11: missing(" + rule + ", 0)", x.missing(rule, 0), BAD_ARG);
        }
    }

    private static void promise12Spare() {
        SeatShares x = with(11, 3, 20, 6, 60, 15);
        int[][] want = {{3, 5, 6, 0, 8}, {3, 6, 1, 15, 1}, {3, 7, 6, 4, 2}, {2, 5, 5, 1, 14}, {2, 8, 5, 19, 2}};
        for (int rule = 0; rule <= 4; rule++) {
            for (int i = 0; i < 5; i++) {
                due("12: spare(" + rule + ", " + i + ")", x.spare(rule, i), want[rule][i]);
            }
        }
        int[][] wantOfSix = {{100, 24, 74, 60, 15, 12}, {60, 120, 103, 3, 15, 12}, {73, 13, 91, 60, 15, 12},
            {60, 279, 159, 59, 14, 11}, {60, 279, 159, 59, 14, 11}};
        SeatShares six = with(7, 340, 280, 160, 60, 15, 12);
        for (int rule = 0; rule <= 4; rule++) {
            for (int i = 0; i < 6; i++) {
                due("12: six lists: spare(" + rule + ", " + i + ")", six.spare(rule, i), wantOfSix[rule][i]);
            }
        }
        for (int rule = 0; rule <= 4; rule++) {
            due("12: equal keeps the lesser number, rule " + rule, with(1, 20, 10).spare(rule, 0), 10);
            due("12: equal loses the greater number, rule " + rule, with(1, 10, 20).spare(rule, 1), 9);
            due("12: nothing to spare, rule " + rule, with(1, 10, 10).spare(rule, 0), 0);
            due("12: no seat to lose, rule " + rule, with(1, 10, 10).spare(rule, 1), 10);
            due("12: the sole list, rule " + rule, with(3, 500).spare(rule, 0), 499);
            due("12: one vote, rule " + rule, with(3, 1).spare(rule, 0), 0);
            due("12: no seats, rule " + rule, with(0, 999, 5).spare(rule, 0), 999);
            due("12: no votes, rule " + rule, with(3, 0, 5).spare(rule, 0), 0);
            due("12: a list not there, rule " + rule, x.spare(rule, 5), BAD_ARG);
            due("12: a list not there, rule " + rule, x.spare(rule, -1), BAD_ARG);
            due("12: a list not there, rule " + rule, x.spare(rule, MAX), BAD_ARG);
            due("12: a list not there, rule " + rule, x.spare(rule, MIN), BAD_ARG);
        }
        due("12: spare(5, 0)", x.spare(5, 0), BAD_ARG);
        due("12: spare(6, 0)", x.spare(6, 0), BAD_ARG);
        for (int rule : NOT_RULES) {
            due("12: spare(" + rule + ", 0)", x.spare(rule, 0), BAD_ARG);
        }
    }

    private static void promise13Fall() {
        due("13: from 0 seats", with(0, 6, 6, 2).fall(5), 3);
        due("13: from the seat number itself", with(3, 6, 6, 2).fall(5), 3);
        due("13: from behind it", with(4, 6, 6, 2).fall(5), 10);
        due("13: from 11 seats", with(11, 6, 6, 2).fall(5), 17);
        due("13: from 24 seats", with(24, 6, 6, 2).fall(5), 24);
        due("13: from 25 seats", with(25, 6, 6, 2).fall(5), NONE);
        due("13: six lists, rule 5", with(7, 340, 280, 160, 60, 15, 12).fall(5), 16);
        due("13: six lists, rule 6", with(7, 340, 280, 160, 60, 15, 12).fall(6), 13);
        due("13: rule 6", with(10, 6, 6, 2).fall(6), 13);
        due("13: 29 seats, rule 5", with(28, 9, 6, 2).fall(5), 29);
        due("13: 29 seats, rule 5", with(29, 9, 6, 2).fall(5), 29);
        due("13: 30 seats, rule 5", with(30, 9, 6, 2).fall(5), NONE);
        due("13: 29 seats, rule 6", with(0, 18, 6, 6).fall(6), 29);
        // With 31 seats a list would have fewer than with 30, but 30 is not asked for.
        due("13: 30 to 31 seats, rule 5", with(30, 4, 11, 20).fall(5), NONE);
        due("13: 30 to 31 seats, rule 5", with(0, 4, 11, 20).fall(5), NONE);
        due("13: 30 to 31 seats, rule 6", with(30, 8, 13, 10).fall(6), NONE);
        due("13: 30 to 31 seats, rule 6", with(0, 8, 13, 10).fall(6), NONE);
        for (int rule = 0; rule <= 6; rule++) {
            due("13: no votes, rule " + rule, with(3, 0, 0, 0).fall(rule), NONE);
            due("13: rules 0 to 4 take no seat back", with(0, 6, 6, 2).fall(rule) == NONE ? 1 : 0, rule <= 4 ? 1 : 0);
        }
        for (int rule : NOT_RULES) {
            due("13: fall(" + rule + ")", with(0, 6, 6, 2).fall(rule), BAD_ARG);
        }
    }

    private static void dueOutside(SeatShares x, int... want) {
        for (int rule = 0; rule <= 6; rule++) {
            due("14: outside(" + rule + ")", x.outside(rule), want[rule]);
        }
    }

    private static void promise14Outside() {
        dueOutside(with(11, 3, 20, 6, 60, 15), 1, 0, 0, 0, 1, 0, 0);
        // 6 seats exactly are due to list 0: both one more and one fewer are outside.
        dueOutside(with(10, 60, 9, 9, 8, 7, 7), 1, 1, 0, 1, 1, 0, 0);
        dueOutside(with(5, 999, 1, 1, 1, 1), 0, 0, 0, 1, 1, 0, 0);
        // 6 / 5 seats are due to list 0, and two are within.
        dueOutside(with(3, 2, 1, 1, 1), 0, 0, 0, 0, 0, 0, 0);
        dueOutside(with(30, 2, 1), 0, 0, 0, 0, 0, 0, 2);
        dueOutside(with(5, 0, 0), 0, 0, 0, 0, 0, 0, 0);
        dueOutside(with(0, 5, 6), 0, 0, 0, 0, 0, 0, 0);
        due("14: two lists above", with(29, 14, 13, 7, 183, 271, 5).outside(0), 2);
        due("14: two lists below", with(22, 1, 176, 8, 3, 4, 291).outside(3), 2);
        due("14: lists above and below", with(30, 1, 13, 3, 4, 13).outside(6), 5);
        for (int rule : NOT_RULES) {
            due("14: outside(" + rule + ")", with(5, 6).outside(rule), BAD_ARG);
            due("14: outside(" + rule + ") without votes", with(5, 0).outside(rule), BAD_ARG);
            due("14: outside(" + rule + ") without lists", with(5).outside(rule), BAD_ARG);
        }
    }

    private static void promise15Moved() {
        SeatShares x = with(11, 3, 20, 6, 60, 15);
        int[][] want = {
            {0, 2, 1, 2, 3, 2, 1},
            {2, 0, 1, 1, 1, 0, 1},
            {1, 1, 0, 2, 2, 1, 1},
            {2, 1, 2, 0, 1, 1, 1},
            {3, 1, 2, 1, 0, 1, 2},
            {2, 0, 1, 1, 1, 0, 1},
            {1, 1, 1, 1, 2, 1, 0}};
        for (int first = 0; first <= 6; first++) {
            for (int second = 0; second <= 6; second++) {
                due("15: moved(" + first + ", " + second + ")", x.moved(first, second), want[first][second]);
            }
        }
        due("15: six lists", with(7, 340, 280, 160, 60, 15, 12).moved(0, 3), 3);
        due("15: several seats of one list", with(5, 999, 1, 1, 1, 1).moved(4, 0), 4);
        due("15: several seats of one list", with(5, 999, 1, 1, 1, 1).moved(0, 4), 4);
        due("15: no seats", with(0, 60, 3).moved(0, 4), 0);
        due("15: no votes", with(5, 0, 0).moved(0, 4), 0);
        for (int rule : NOT_RULES) {
            due("15: moved(" + rule + ", 0)", x.moved(rule, 0), BAD_ARG);
            due("15: moved(0, " + rule + ")", x.moved(0, rule), BAD_ARG);
            due("15: moved(" + rule + ", " + rule + ")", x.moved(rule, rule), BAD_ARG);
        }
    }

    private static void promise16Majority() {
        SeatShares x = with(11, 3, 20, 6, 60, 15);
        for (int rule = 0; rule <= 6; rule++) {
            due("16: majority(" + rule + ")", x.majority(rule), rule == 4 ? 2 : 1);
            due("16: half is not enough", with(2, 10, 10).majority(rule), 2);
            due("16: more than half", with(3, 10, 10).majority(rule), 1);
            due("16: four of six", with(30, 999, 999, 999, 999, 999, 999).majority(rule), 4);
            due("16: three of six", with(29, 999, 999, 999, 999, 999, 999).majority(rule), 3);
            due("16: each list counts once", with(8, 10, 10, 30, 10, 10, 10).majority(rule), 3);
            due("16: half of two lists", with(6, 1, 2, 3).majority(rule), 2);
            due("16: no seats", with(0, 1, 2, 3).majority(rule), 0);
            due("16: no votes", with(6, 0, 0).majority(rule), 0);
            due("16: no lists", with(6).majority(rule), 0);
            due("16: the sole list", with(30, 0, 1).majority(rule), 1);
        }
        due("16: the greatest lists count first", with(12, 1, 2, 3, 4, 5, 6).majority(0), 2);
        for (int rule : NOT_RULES) {
            due("16: majority(" + rule + ")", x.majority(rule), BAD_ARG);
            due("16: majority(" + rule + ") without lists", with(6).majority(rule), BAD_ARG);
        }
    }

    private static void questionsChangeNothing() {
        SeatShares x = with(11, 3, 20, 6, 60, 15);
        for (int rule = -1; rule <= 7; rule++) {
            for (int i = -1; i <= 5; i++) {
                x.share(rule, i);
                x.missing(rule, i);
                x.spare(rule, i);
                x.moved(rule, i);
            }
            x.next(rule);
            x.fall(rule);
            x.outside(rule);
            x.majority(rule);
        }
        x.lists();
        x.votes();
        dueVotes("after all questions", x, 3, 20, 6, 60, 15);
        due("after all questions: seats", seatsOf(x), 11);
    }
}

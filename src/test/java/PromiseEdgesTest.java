// The sentences of promises 1 to 16 that name a boundary case, each with a test of its own; worked out by hand.
// What a refused call answers, and that it changes nothing, stands in RefusalsTest.
public final class PromiseEdgesTest {
    private static final int BAD_ARG = -1;
    private static final int FULL = -2;
    private static final int NONE = -4;
    private static final int MIN = Integer.MIN_VALUE;
    private static final int MAX = Integer.MAX_VALUE;

    private static int wrong = 0;
    private static String sentence = "";

    public static void main(String[] args) {
        promise1NoListsZeroSeats();
        promise2VotesNotZeroTo999();
        promise2BadArgBeforeFull();
        promise2ItsNumber();
        promise3ListNotThere();
        promise3VotesNotZeroTo999();
        promise3WhatItHad();
        promise4AtMost999();
        promise4ListJHasNone();
        promise4ListNotThereOrTheSame();
        promise5SeatsNotZeroTo30();
        promise5WhatItWas();
        promise6LessThanHundredths();
        promise6HundredthsOfMany();
        promise6AllAtTheSameTime();
        promise6NotZeroTo100();
        promise6HowManyHaveVotesThen();
        promise7FromNoneToSix();
        promise8FromNoneToAll();
        promise9EdgesOfLists();
        promise10OneSeatMore();
        promise10OneSeatMoreThan30();
        promise10NoListWithVotes();
        promise11FromOne();
        promise11UpTo2000();
        promise11MoreThan999();
        promise11NoneIfThereIsNone();
        promise11ListWithoutVotes();
        promise12GreatestNumber();
        promise12NoVoteToLose();
        promise12AllVotesToLose();
        promise13FromThePresentOne();
        promise13UpTo29();
        promise13NoneIfThereIsNone();
        promise14AroundAWholeNumber();
        promise14NoVotes();
        promise15SameAndOpposite();
        promise16MoreThanHalf();
        promise16NoneAreGiven();
        System.out.println(wrong == 0 ? "all answers are as due" : wrong + " answers are not as due");
        if (wrong != 0) {
            System.exit(1);
        }
    }

    private static void says(String words) {
        sentence = words;
    }

    private static void due(String call, int got, int want) {
        if (got != want) {
            wrong++;
            System.out.println("'" + sentence + "': " + call + " answered " + got + ", due is " + want);
        }
    }

    private static SeatShares with(int seats, int... votes) {
        SeatShares x = new SeatShares();
        for (int v : votes) {
            x.list(v);
        }
        x.seats(seats);
        return x;
    }

    // The votes of a list can be read by setting them, and set back.
    private static int votesOf(SeatShares x, int i) {
        int before = x.vote(i, 0);
        x.vote(i, before);
        return before;
    }

    private static void dueVotes(String where, SeatShares x, int... want) {
        due(where + ": lists()", x.lists(), want.length);
        for (int i = 0; i < want.length; i++) {
            due(where + ": votes of list " + i, votesOf(x, i), want[i]);
        }
    }

    private static void promise1NoListsZeroSeats() {
        says("No lists; 0 seats.");
        due("lists()", new SeatShares().lists(), 0);
        due("votes()", new SeatShares().votes(), 0);
        due("seats(30)", new SeatShares().seats(30), 0);
        due("vote(0, 0)", new SeatShares().vote(0, 0), BAD_ARG);
        due("list(0)", new SeatShares().list(0), 0);
        SeatShares x = new SeatShares();
        x.list(999);
        for (int rule = 0; rule <= 6; rule++) {
            due("share(" + rule + ", 0)", x.share(rule, 0), 0);
        }
    }

    private static void promise2VotesNotZeroTo999() {
        says("votes not 0 to 999 answers BAD_ARG");
        SeatShares x = new SeatShares();
        due("list(-1)", x.list(-1), BAD_ARG);
        due("list(1000)", x.list(1000), BAD_ARG);
        due("list(MIN)", x.list(MIN), BAD_ARG);
        due("list(MAX)", x.list(MAX), BAD_ARG);
        dueVotes("after refusals", x);
        due("list(0)", x.list(0), 0);
        due("list(999)", x.list(999), 1);
        dueVotes("the last values that are taken", x, 0, 999);
    }

    private static void promise2BadArgBeforeFull() {
        says("Tested in this order: votes not 0 to 999 answers BAD_ARG; FULL.");
        SeatShares x = with(0, 1, 2, 3, 4, 5, 6);
        due("list(-1)", x.list(-1), BAD_ARG);
        due("list(1000)", x.list(1000), BAD_ARG);
        due("list(MIN)", x.list(MIN), BAD_ARG);
        due("list(MAX)", x.list(MAX), BAD_ARG);
        due("list(0)", x.list(0), FULL);
        due("list(999)", x.list(999), FULL);
        dueVotes("after refusals", x, 1, 2, 3, 4, 5, 6);
        x.bar(100);
        due("list(7) of six lists without votes", x.list(7), FULL);
    }

    private static void promise2ItsNumber() {
        says("Otherwise its number.");
        SeatShares x = new SeatShares();
        for (int n = 0; n < 6; n++) {
            due("a refused list uses up no number", x.list(1000), BAD_ARG);
            due("list(" + n + ")", x.list(n), n);
        }
        due("a seventh list", x.list(6), FULL);
    }

    private static void promise3ListNotThere() {
        says("BAD_ARG if it is not there");
        SeatShares x = new SeatShares();
        for (int n = 0; n <= 6; n++) {
            due("vote(-1, 5) of " + n + " lists", x.vote(-1, 5), BAD_ARG);
            due("vote(" + n + ", 5) of " + n + " lists", x.vote(n, 5), BAD_ARG);
            due("vote(MIN, 5) of " + n + " lists", x.vote(MIN, 5), BAD_ARG);
            due("vote(MAX, 5) of " + n + " lists", x.vote(MAX, 5), BAD_ARG);
            due("votes()", x.votes(), n);
            for (int i = 0; i < n; i++) {
                due("vote(" + i + ", 1) of " + n + " lists", x.vote(i, 1), 1);
            }
            x.list(1);
        }
    }

    private static void promise3VotesNotZeroTo999() {
        says("or votes not 0 to 999");
        SeatShares x = with(0, 10, 20);
        due("vote(1, -1)", x.vote(1, -1), BAD_ARG);
        due("vote(1, 1000)", x.vote(1, 1000), BAD_ARG);
        due("vote(1, MIN)", x.vote(1, MIN), BAD_ARG);
        due("vote(1, MAX)", x.vote(1, MAX), BAD_ARG);
        due("vote(2, -1)", x.vote(2, -1), BAD_ARG);
        due("vote(-1, 1000)", x.vote(-1, 1000), BAD_ARG);
        dueVotes("after refusals", x, 10, 20);
        due("vote(1, 0)", x.vote(1, 0), 20);
        dueVotes("the least that is taken", x, 10, 0);
        due("vote(1, 999)", x.vote(1, 999), 0);
        dueVotes("the greatest that is taken", x, 10, 999);
    }

    private static void promise3WhatItHad() {
        says("Otherwise what it had.");
        SeatShares x = with(0, 0, 999);
        due("vote(0, 0)", x.vote(0, 0), 0);
        due("vote(0, 999)", x.vote(0, 999), 0);
        due("vote(0, 999)", x.vote(0, 999), 999);
        due("vote(1, 1)", x.vote(1, 1), 999);
        due("vote(1, 1)", x.vote(1, 1), 1);
    }

    private static void dueJoin(int v, int w, int want) {
        SeatShares x = with(0, v, w);
        due("join(0, 1) of " + v + " and " + w, x.join(0, 1), want);
        dueVotes("join(0, 1) of " + v + " and " + w, x, want, 0);
        SeatShares y = with(0, v, w);
        due("join(1, 0) of " + v + " and " + w, y.join(1, 0), want);
        dueVotes("join(1, 0) of " + v + " and " + w, y, 0, want);
    }

    private static void promise4AtMost999() {
        says("The votes of list j go to list i (at most 999 then; what is above is lost)");
        dueJoin(0, 0, 0);
        dueJoin(0, 1, 1);
        dueJoin(499, 499, 998);
        dueJoin(499, 500, 999);
        dueJoin(500, 500, 999);
        dueJoin(999, 0, 999);
        dueJoin(999, 1, 999);
        dueJoin(999, 999, 999);
    }

    private static void promise4ListJHasNone() {
        says("and list j has none then");
        SeatShares x = with(0, 999, 999, 999);
        due("join(2, 0)", x.join(2, 0), 999);
        dueVotes("what is above is lost, not left", x, 0, 999, 999);
        due("votes()", x.votes(), 1998);
        due("join(0, 2)", x.join(0, 2), 999);
        dueVotes("no other list changes", x, 999, 999, 0);
        due("lists()", x.lists(), 3);
    }

    private static void promise4ListNotThereOrTheSame() {
        says("BAD_ARG if list i or j is not there, or i = j.");
        int[] notThere = {-1, 3, 6, MIN, MAX};
        SeatShares x = with(0, 5, 6, 7);
        for (int i : notThere) {
            due("join(" + i + ", 0)", x.join(i, 0), BAD_ARG);
            due("join(2, " + i + ")", x.join(2, i), BAD_ARG);
            due("join(" + i + ", " + i + ")", x.join(i, i), BAD_ARG);
        }
        for (int i = 0; i < 3; i++) {
            due("join(" + i + ", " + i + ")", x.join(i, i), BAD_ARG);
        }
        dueVotes("after refusals", x, 5, 6, 7);
        due("join(0, 2)", x.join(0, 2), 12);
        SeatShares full = with(0, 1, 2, 3, 4, 5, 6);
        due("join(6, 0) of six lists", full.join(6, 0), BAD_ARG);
        due("join(0, 6) of six lists", full.join(0, 6), BAD_ARG);
        due("join(5, 0) of six lists", full.join(5, 0), 7);
        due("join(0, 5) of six lists", full.join(0, 5), 7);
        due("join(0, 0) of one list", with(0, 1).join(0, 0), BAD_ARG);
        due("join(0, 0) of no lists", with(0).join(0, 0), BAD_ARG);
    }

    private static void promise5SeatsNotZeroTo30() {
        says("BAD_ARG if n is not 0 to 30.");
        SeatShares x = with(12, 1);
        due("seats(-1)", x.seats(-1), BAD_ARG);
        due("seats(31)", x.seats(31), BAD_ARG);
        due("seats(MIN)", x.seats(MIN), BAD_ARG);
        due("seats(MAX)", x.seats(MAX), BAD_ARG);
        due("share(0, 0)", x.share(0, 0), 12);
        due("seats(0)", x.seats(0), 12);
        due("share(0, 0)", x.share(0, 0), 0);
        due("seats(30)", x.seats(30), 0);
        due("share(0, 0)", x.share(0, 0), 30);
    }

    private static void promise5WhatItWas() {
        says("Otherwise what it was.");
        SeatShares x = new SeatShares();
        int before = 0;
        for (int n = 30; n >= 0; n--) {
            due("seats(" + n + ")", x.seats(n), before);
            due("seats(" + n + ") again", x.seats(n), n);
            before = n;
        }
    }

    // Of 100 votes a list with p votes has just p hundredths.
    private static void promise6LessThanHundredths() {
        says("Every list that has less than p hundredths of all votes loses its votes");
        for (int p = 1; p <= 99; p++) {
            SeatShares just = with(0, p, 100 - p);
            just.bar(p);
            due("bar(" + p + ") of " + p + " and " + (100 - p), votesOf(just, 0), p);
            SeatShares less = with(0, p, 100 - p);
            less.bar(p + 1);
            due("bar(" + (p + 1) + ") of " + p + " and " + (100 - p), votesOf(less, 0), 0);
            SeatShares other = with(0, p, 100 - p);
            other.bar(p);
            due("bar(" + p + "), the other list", votesOf(other, 1), 100 - p >= p ? 100 - p : 0);
        }
        SeatShares nothing = with(0, 1, 999, 0);
        due("bar(0)", nothing.bar(0), 2);
        dueVotes("bar(0)", nothing, 1, 999, 0);
        SeatShares sole = with(0, 0, 1);
        due("bar(100) of the sole list with votes", sole.bar(100), 1);
        dueVotes("bar(100) of the sole list with votes", sole, 0, 1);
        SeatShares most = with(0, 999, 1);
        due("bar(100) of 999 and 1", most.bar(100), 0);
        dueVotes("bar(100) of 999 and 1", most, 0, 0);
    }

    // A hundredth of 5045 and 5046 votes is between 50 and 51; 33 and 34 hundredths of 3 are on both sides of 1.
    private static void promise6HundredthsOfMany() {
        says("Every list that has less than p hundredths of all votes loses its votes");
        due("50 of 5045", with(0, 999, 999, 999, 999, 999, 50).bar(1), 5);
        due("51 of 5046", with(0, 999, 999, 999, 999, 999, 51).bar(1), 6);
        due("16 hundredths, 6 times 999", with(0, 999, 999, 999, 999, 999, 999).bar(16), 6);
        due("17 hundredths, 6 times 999", with(0, 999, 999, 999, 999, 999, 999).bar(17), 0);
        due("33 hundredths of 3", with(0, 1, 2).bar(33), 2);
        due("34 hundredths of 3", with(0, 1, 2).bar(34), 1);
        due("66 hundredths of 3", with(0, 1, 2).bar(66), 1);
        due("67 hundredths of 3", with(0, 1, 2).bar(67), 0);
    }

    // One after the other the second list of 10 would have 11 hundredths of 90.
    private static void promise6AllAtTheSameTime() {
        says("(all at the same time)");
        SeatShares rising = with(0, 10, 10, 80);
        due("bar(11)", rising.bar(11), 1);
        dueVotes("bar(11)", rising, 0, 0, 80);
        SeatShares falling = with(0, 80, 10, 10);
        due("bar(11)", falling.bar(11), 1);
        dueVotes("bar(11)", falling, 80, 0, 0);
        SeatShares again = with(0, 1, 9, 10, 80);
        due("bar(10)", again.bar(10), 2);
        dueVotes("bar(10)", again, 0, 0, 10, 80);
        due("bar(12) later, of 90", again.bar(12), 1);
        dueVotes("bar(12) later, of 90", again, 0, 0, 0, 80);
    }

    private static void promise6NotZeroTo100() {
        says("BAD_ARG if p is not 0 to 100.");
        SeatShares x = with(0, 1, 99);
        due("bar(-1)", x.bar(-1), BAD_ARG);
        due("bar(101)", x.bar(101), BAD_ARG);
        due("bar(MIN)", x.bar(MIN), BAD_ARG);
        due("bar(MAX)", x.bar(MAX), BAD_ARG);
        dueVotes("after refusals", x, 1, 99);
        due("bar(0)", x.bar(0), 2);
        due("bar(100)", x.bar(100), 0);
        due("bar(101) of no lists", with(0).bar(101), BAD_ARG);
        due("bar(-1) of no lists", with(0).bar(-1), BAD_ARG);
    }

    private static void promise6HowManyHaveVotesThen() {
        says("Otherwise how many lists have votes then.");
        int[] hundredths = {0, 1, 50, 100};
        for (int p : hundredths) {
            due("bar(" + p + ") of no lists", with(3).bar(p), 0);
            due("bar(" + p + ") of lists without votes", with(3, 0, 0, 0, 0, 0, 0).bar(p), 0);
            due("bar(" + p + ") of one list with votes", with(3, 0, 0, 0, 0, 0, 1).bar(p), 1);
        }
        due("bar(50) of two equal lists", with(3, 7, 7).bar(50), 2);
        due("bar(51) of two equal lists", with(3, 7, 7).bar(51), 0);
        due("bar(0) of six lists", with(3, 1, 2, 3, 4, 5, 6).bar(0), 6);
        due("bar(0) of five lists with votes", with(3, 1, 2, 0, 4, 5, 6).bar(0), 5);
    }

    private static void promise7FromNoneToSix() {
        says("How many lists there are.");
        SeatShares x = new SeatShares();
        for (int n = 0; n < 6; n++) {
            due("lists()", x.lists(), n);
            x.list(0);
        }
        due("lists() without votes", x.lists(), 6);
        x.list(1);
        due("lists() after a seventh", x.lists(), 6);
    }

    private static void promise8FromNoneToAll() {
        says("The votes of all lists.");
        due("votes() of no lists", with(30).votes(), 0);
        due("votes() of no votes", with(30, 0, 0, 0, 0, 0, 0).votes(), 0);
        due("votes() of the last list", with(0, 0, 0, 0, 0, 0, 1).votes(), 1);
        due("votes() of the first list", with(0, 999, 0, 0, 0, 0, 0).votes(), 999);
        due("votes() of six times 999", with(0, 999, 999, 999, 999, 999, 999).votes(), 5994);
    }

    private static void promise9EdgesOfLists() {
        says("How many seats list i gets.");
        for (int rule = 0; rule <= 6; rule++) {
            SeatShares x = with(30, 0, 0, 0, 0, 0, 999);
            due("share(" + rule + ", 0)", x.share(rule, 0), 0);
            due("share(" + rule + ", 5)", x.share(rule, 5), 30);
            due("share(" + rule + ", 6)", x.share(rule, 6), BAD_ARG);
            due("share(" + rule + ", -1)", x.share(rule, -1), BAD_ARG);
        }
    }

    private static void promise10OneSeatMore() {
        says("The list that would get the seat if there were one more, under rules 0 to 4");
        int[][] some = {{1}, {0, 1}, {1, 1, 1}, {999, 1}, {1, 999}, {6, 6, 2}, {340, 280, 160, 60, 15, 12}};
        for (int[] votes : some) {
            for (int seats = 0; seats < 30; seats++) {
                SeatShares x = with(seats, votes);
                SeatShares y = with(seats + 1, votes);
                for (int rule = 0; rule <= 4; rule++) {
                    int i = x.next(rule);
                    due("next(" + rule + ") of " + seats + " seats: its share with one more", y.share(rule, i),
                        x.share(rule, i) + 1);
                }
            }
        }
    }

    // 16 / 16 and 15 / 15 are the last two of 31 quotients, and equal; all others of rule 0 are less.
    private static void promise10OneSeatMoreThan30() {
        says("The list that would get the seat if there were one more, under rules 0 to 4");
        due("next(0) after 30 seats", with(30, 16, 15).next(0), 1);
        due("next(0) after 30 seats", with(30, 15, 16).next(0), 1);
        due("next(0) after 29 seats", with(29, 16, 15).next(0), 0);
        due("next(0) after 29 seats", with(29, 15, 16).next(0), 0);
        for (int rule = 0; rule <= 4; rule++) {
            due("next(" + rule + ") after 30 seats of equal lists", with(30, 5, 5, 5, 5).next(rule), 2);
            due("next(" + rule + ") after 0 seats", with(0, 5, 6, 6).next(rule), 1);
            due("next(" + rule + ") after 30 seats of one list", with(30, 0, 0, 0, 0, 0, 1).next(rule), 5);
        }
    }

    private static void promise10NoListWithVotes() {
        says("NONE if no list has votes; BAD_ARG for rules 5 and 6.");
        SeatShares[] empty = {with(0), with(30), with(0, 0), with(30, 0, 0, 0, 0, 0, 0)};
        for (SeatShares x : empty) {
            for (int rule = 0; rule <= 4; rule++) {
                due("next(" + rule + ")", x.next(rule), NONE);
            }
            due("next(5)", x.next(5), BAD_ARG);
            due("next(6)", x.next(6), BAD_ARG);
            due("next(7)", x.next(7), BAD_ARG);
            due("next(-1)", x.next(-1), BAD_ARG);
        }
        due("next(4)", with(3, 1).next(4), 0);
        due("next(5)", with(3, 1).next(5), BAD_ARG);
        due("next(6)", with(3, 1).next(6), BAD_ARG);
    }

    private static void promise11FromOne() {
        says("The least number of votes more, from 1 to 2000");
        for (int rule = 0; rule <= 4; rule++) {
            due("equal is enough for list 0, rule " + rule, with(1, 4, 5).missing(rule, 0), 1);
            due("equal is not enough for list 1, rule " + rule, with(1, 5, 5).missing(rule, 1), 1);
            due("one above equal, rule " + rule, with(1, 5, 4).missing(rule, 1), 2);
            due("from 0 to 999, rule " + rule, with(1, 0, 999).missing(rule, 0), 999);
            due("from 0 to 1000, rule " + rule, with(1, 999, 0).missing(rule, 1), 1000);
        }
    }

    // With one seat each, quotient 1 of rule 1 has to reach 999 (list 0) or pass it (list 1): 2997 and 2998 votes.
    private static void promise11UpTo2000() {
        says("The least number of votes more, from 1 to 2000");
        due("1998 more", with(2, 999, 999).missing(1, 0), 1998);
        due("2000 more", with(2, 997, 999).missing(1, 0), 2000);
        due("2001 more", with(2, 996, 999).missing(1, 0), NONE);
        due("1999 more", with(2, 999, 999).missing(1, 1), 1999);
        due("2000 more", with(2, 999, 998).missing(1, 1), 2000);
        due("2001 more", with(2, 999, 997).missing(1, 1), NONE);
    }

    // With one seat each, quotient 1 has to reach 999 / 1 for rule 0 and 999 / 7 for rule 2 (2141 / 15);
    // with three and two, quotient 3 has to reach 999 * 999 / 2 for rule 3 (2448 * 2448 / 12) and 999 / 1 for rule 4.
    private static void promise11MoreThan999() {
        says("with which alone (no other list's votes changed; it may then have more than 999)");
        due("rule 0", with(2, 999, 999).missing(0, 0), 999);
        due("rule 0", with(2, 999, 999).missing(0, 1), 1000);
        due("rule 2", with(2, 999, 999).missing(2, 0), 1142);
        due("rule 3", with(5, 999, 999).missing(3, 0), 1449);
        due("rule 4", with(5, 999, 999).missing(4, 0), 1998);
        SeatShares x = with(2, 999, 999);
        x.missing(0, 0);
        dueVotes("after missing(0, 0)", x, 999, 999);
    }

    private static void promise11NoneIfThereIsNone() {
        says("NONE if there is none; BAD_ARG for rules 5 and 6.");
        for (int rule = 0; rule <= 4; rule++) {
            due("0 seats, rule " + rule, with(0, 5, 6).missing(rule, 1), NONE);
            due("it has all 30 seats, rule " + rule, with(30, 0, 5).missing(rule, 1), NONE);
            due("it has the one seat, rule " + rule, with(1, 4, 5).missing(rule, 1), NONE);
        }
        // No votes of rules 3 and 4 bring a second seat where each list with votes can have but its first one.
        due("rule 3, one seat each", with(3, 1, 1, 999).missing(3, 2), NONE);
        due("rule 4, one seat each", with(3, 1, 1, 999).missing(4, 2), NONE);
        due("rule 3, a seat more", with(4, 1, 1, 999).missing(3, 0), 998);
        due("rule 4, a seat more", with(4, 1, 1, 999).missing(4, 0), 998);
        due("rule 5", with(1, 4, 5).missing(5, 0), BAD_ARG);
        due("rule 6", with(1, 4, 5).missing(6, 0), BAD_ARG);
        due("rule 5, 0 seats", with(0, 4, 5).missing(5, 0), BAD_ARG);
        due("rule 6, 0 seats", with(0, 4, 5).missing(6, 0), BAD_ARG);
    }

    // List 1 has both seats; its second quotients are 9 / 2, 9 / 3 and 9 / 15, and 5, 3 and 5 votes are needed.
    private static void promise11ListWithoutVotes() {
        says("The least number of votes more, from 1 to 2000");
        int[] want = {5, 3, 5, 1, 1};
        for (int rule = 0; rule <= 4; rule++) {
            due("missing(" + rule + ", 0) of 0 and 9", with(2, 0, 9).missing(rule, 0), want[rule]);
            due("missing(" + rule + ", 5) of no votes", with(1, 0, 0, 0, 0, 0, 0).missing(rule, 5), 1);
            due("missing(" + rule + ", 0) of no votes", with(30, 0).missing(rule, 0), 1);
        }
    }

    // Two seats for 10 and 40 votes: the second quotients of list 1 have to stay above list 0's first one, or
    // of list 0 at it. Under rules 3 and 4 each list keeps its seat with one vote.
    private static void promise12GreatestNumber() {
        says("The greatest number of votes that list i could lose, alone, such that it would keep as many seats");
        int[] second = {40 - 21, 40 - 31, 40 - 22, 39, 39};
        int[] first = {40 - 20, 40 - 30, 40 - 22, 39, 39};
        for (int rule = 0; rule <= 4; rule++) {
            due("spare(" + rule + ", 1) of 10 and 40", with(2, 10, 40).spare(rule, 1), second[rule]);
            due("spare(" + rule + ", 0) of 40 and 10", with(2, 40, 10).spare(rule, 0), first[rule]);
            due("equal keeps list 0, rule " + rule, with(1, 999, 1).spare(rule, 0), 998);
            due("equal does not keep list 1, rule " + rule, with(1, 1, 999).spare(rule, 1), 997);
        }
        SeatShares x = with(2, 10, 40);
        x.spare(0, 1);
        dueVotes("after spare(0, 1)", x, 10, 40);
        due("rule 5", x.spare(5, 0), BAD_ARG);
        due("rule 6", x.spare(6, 0), BAD_ARG);
    }

    private static void promise12NoVoteToLose() {
        says("The greatest number of votes that list i could lose");
        for (int rule = 0; rule <= 4; rule++) {
            due("no votes, rule " + rule, with(3, 0, 5).spare(rule, 0), 0);
            due("no votes at all, rule " + rule, with(3, 0).spare(rule, 0), 0);
            due("no votes and no seats, rule " + rule, with(0, 0).spare(rule, 0), 0);
            due("one vote and all seats, rule " + rule, with(30, 1).spare(rule, 0), 0);
            due("equal lists, rule " + rule, with(1, 8, 8).spare(rule, 0), 0);
            due("one vote above, rule " + rule, with(1, 8, 9).spare(rule, 1), 0);
            due("one vote above, list 0, rule " + rule, with(1, 9, 8).spare(rule, 0), 1);
        }
    }

    private static void promise12AllVotesToLose() {
        says("such that it would keep as many seats");
        for (int rule = 0; rule <= 4; rule++) {
            due("no seats, rule " + rule, with(0, 999).spare(rule, 0), 999);
            due("no seat to keep, rule " + rule, with(1, 999, 999).spare(rule, 1), 999);
            due("all seats to keep, rule " + rule, with(30, 999).spare(rule, 0), 998);
            due("all seats beside lists without votes, rule " + rule, with(30, 0, 999, 0).spare(rule, 1), 998);
        }
    }

    // With 6, 6 and 2 votes list 2 has one, two, three and four seats of 3, 10, 17 and 24, and one fewer of one more.
    private static void promise13FromThePresentOne() {
        says("The least number of seats, from the present one up to 29");
        int[] from = {0, 3, 4, 10, 11, 17, 18, 24};
        int[] want = {3, 3, 10, 10, 17, 17, 24, 24};
        for (int i = 0; i < from.length; i++) {
            due("fall(5) from " + from[i] + " seats", with(from[i], 6, 6, 2).fall(5), want[i]);
        }
        due("fall(5) from 25 seats", with(25, 6, 6, 2).fall(5), NONE);
        due("fall(5) from 30 seats", with(30, 6, 6, 2).fall(5), NONE);
        // Quota 2 of 3 votes and 2 seats leaves (1, 1), quota 1 with 3 seats (2, 1) and so on: none has fewer.
        due("fall(6) of 2 and 1", with(0, 2, 1).fall(6), NONE);
    }

    // 9, 6 and 2 votes: 15, 10 and 4 of 29 seats, and 16, 11 and 3 of 30. 4, 11 and 20 votes: 4, 9 and 17 of 30,
    // and 3, 10 and 18 of 31. 18, 6 and 6 votes under rule 6: 14, 8 and 7 of 29, and 18, 6 and 6 of 30.
    private static void promise13UpTo29() {
        says("from the present one up to 29");
        due("fall(5) from 28 seats", with(28, 9, 6, 2).fall(5), 29);
        due("fall(5) from 29 seats", with(29, 9, 6, 2).fall(5), 29);
        due("fall(5) from 30 seats", with(30, 9, 6, 2).fall(5), NONE);
        due("fall(5) from 30 seats, fewer with 31", with(30, 4, 11, 20).fall(5), NONE);
        due("fall(5) from 29 seats, fewer with 31", with(29, 4, 11, 20).fall(5), NONE);
        due("fall(6) from 29 seats", with(29, 18, 6, 6).fall(6), 29);
        due("fall(6) from 30 seats", with(30, 18, 6, 6).fall(6), NONE);
    }

    private static void promise13NoneIfThereIsNone() {
        says("NONE if there is none.");
        for (int rule = 0; rule <= 6; rule++) {
            due("no lists, rule " + rule, with(0).fall(rule), NONE);
            due("no votes, rule " + rule, with(0, 0, 0, 0).fall(rule), NONE);
            due("one list, rule " + rule, with(0, 0, 5).fall(rule), NONE);
            due("30 seats, rule " + rule, with(30, 6, 6, 2).fall(rule), NONE);
            due("equal lists, rule " + rule, with(0, 5, 5).fall(rule), NONE);
        }
        for (int rule = 0; rule <= 4; rule++) {
            due("quotients take no seat back, rule " + rule, with(0, 6, 6, 2).fall(rule), NONE);
        }
    }

    // Of 10 seats 5.9, 6 and 6.1 are due to list 0, which gets 7 under rule 0 and 5 under rule 4; each of the
    // others, which less than one is due to, gets one or none.
    private static void promise14AroundAWholeNumber() {
        says("fewer seats than S v / V rounded down, or more than that rounded up");
        SeatShares below = with(10, 59, 9, 9, 8, 8, 7);
        SeatShares whole = with(10, 60, 9, 9, 8, 7, 7);
        SeatShares above = with(10, 61, 9, 9, 8, 7, 6);
        SeatShares[] all = {below, whole, above};
        for (SeatShares x : all) {
            due("share(0, 0)", x.share(0, 0), 7);
            due("share(4, 0)", x.share(4, 0), 5);
            due("share(5, 0)", x.share(5, 0), 6);
        }
        due("7 seats where 5.9 are due", below.outside(0), 1);
        due("5 seats where 5.9 are due", below.outside(4), 0);
        due("6 seats where 5.9 are due", below.outside(5), 0);
        due("7 seats where 6 are due", whole.outside(0), 1);
        due("5 seats where 6 are due", whole.outside(4), 1);
        due("6 seats where 6 are due", whole.outside(5), 0);
        due("7 seats where 6.1 are due", above.outside(0), 0);
        due("5 seats where 6.1 are due", above.outside(4), 1);
        due("6 seats where 6.1 are due", above.outside(5), 0);
        due("16 and 14 seats where 20 and 10 are due", with(30, 2, 1).outside(6), 2);
        due("and lists without votes, which get none", with(30, 0, 2, 0, 1, 0).outside(6), 2);
    }

    private static void promise14NoVotes() {
        says("0 if there are no votes.");
        for (int rule = 0; rule <= 6; rule++) {
            due("no lists, rule " + rule, with(30).outside(rule), 0);
            due("no votes, rule " + rule, with(30, 0, 0, 0, 0, 0, 0).outside(rule), 0);
            due("no seats, rule " + rule, with(0, 999, 1).outside(rule), 0);
            due("one list, rule " + rule, with(30, 1).outside(rule), 0);
        }
    }

    // 30 and five times 0 seats under rule 0, 25 and five times 1 under rule 4; 20 and 10 under rule 0, 16 and 14
    // under rule 6.
    private static void promise15SameAndOpposite() {
        says("the sum, over all lists that get more under the second one, of how many more");
        SeatShares x = with(30, 999, 1, 1, 1, 1, 1);
        due("five lists get one more", x.moved(0, 4), 5);
        due("one list gets five more", x.moved(4, 0), 5);
        due("four more", with(30, 2, 1).moved(0, 6), 4);
        due("four more", with(30, 2, 1).moved(6, 0), 4);
        for (int rule = 0; rule <= 6; rule++) {
            due("the same rule " + rule, x.moved(rule, rule), 0);
            due("no lists, rule " + rule, with(30).moved(rule, 6 - rule), 0);
        }
        says("BAD_ARG if one of the rules is not there.");
        int[] notThere = {-1, 7, MIN, MAX};
        for (int rule : notThere) {
            due("moved(" + rule + ", 0)", x.moved(rule, 0), BAD_ARG);
            due("moved(6, " + rule + ")", x.moved(6, rule), BAD_ARG);
            due("moved(" + rule + ", " + rule + ")", x.moved(rule, rule), BAD_ARG);
            due("moved(" + rule + ", 6) of no lists", with(30).moved(rule, 6), BAD_ARG);
            due("moved(0, " + rule + ") of no lists", with(30).moved(0, rule), BAD_ARG);
        }
    }

    private static void promise16MoreThanHalf() {
        says("The least number of lists that have together more than half of all seats given under the rule");
        for (int rule = 0; rule <= 6; rule++) {
            due("1 of 1 seat, rule " + rule, with(1, 7, 7).majority(rule), 1);
            due("1 of 2 seats is half, rule " + rule, with(2, 7, 7).majority(rule), 2);
            due("2 of 3 seats, rule " + rule, with(3, 7, 7).majority(rule), 1);
            due("15 of 30 seats is half, rule " + rule, with(30, 7, 7).majority(rule), 2);
            due("15 of 29 seats, rule " + rule, with(29, 7, 7).majority(rule), 1);
            due("15 of 30 seats of three lists is half, rule " + rule, with(30, 5, 5, 5, 5, 5, 5).majority(rule), 4);
            due("15 of 29 seats of three lists, rule " + rule, with(29, 5, 5, 5, 5, 5, 5).majority(rule), 3);
            due("all seats of the last list, rule " + rule, with(30, 0, 0, 0, 0, 0, 1).majority(rule), 1);
        }
        // 1, 1 and 2 seats of 4 under rule 0: the list with the most comes last, and has but half.
        due("2 of 4 seats is half", with(4, 10, 10, 20).majority(0), 2);
        due("3 of 5 seats", with(5, 10, 10, 30).majority(0), 1);
        // 3 seats and five times 1 of 8 under every rule: the greatest list counts but once.
        for (int rule = 0; rule <= 6; rule++) {
            due("4 of 8 seats is half, rule " + rule, with(8, 10, 10, 30, 10, 10, 10).majority(rule), 3);
        }
    }

    private static void promise16NoneAreGiven() {
        says("0 if none are given.");
        for (int rule = 0; rule <= 6; rule++) {
            due("no lists, rule " + rule, with(30).majority(rule), 0);
            due("no votes, rule " + rule, with(30, 0, 0, 0, 0, 0, 0).majority(rule), 0);
            due("no seats, rule " + rule, with(0, 999, 999).majority(rule), 0);
        }
    }
}

import java.util.function.ToIntFunction;

// 'No call ever throws. A refused call answers the code named and changes nothing. In every question a rule that is
// not 0 to 6, or a list that is not there, answers BAD_ARG.' Every call is made with arguments on both sides of every
// bound and with the least and the greatest int, each on a new object in each of some states, beside an object in the
// same state that was not asked.
public final class RefusalsTest {
    private static final int BAD_ARG = -1;
    private static final int FULL = -2;
    private static final int NONE = -4;
    private static final int MIN = Integer.MIN_VALUE;
    private static final int MAX = Integer.MAX_VALUE;

    // 256, 65536 and their neighbours are 0 and its neighbours in fewer bits.
    private static final int[] NUMBERS = {MIN, MIN + 1, -65536, -1000, -999, -256, -7, -6, -2, -1, 0, 1, 2, 3, 4, 5, 6,
        7, 8, 29, 30, 31, 99, 100, 101, 255, 256, 257, 998, 999, 1000, 1001, 65535, 65536, 65537, MAX - 1, MAX};

    // Each state: the number of seats, then the votes of the lists.
    private static final int[][] STATES = {{0}, {30}, {0, 0}, {30, 0}, {1, 1}, {11, 6, 6, 2}, {29, 0, 9, 0, 6, 2},
        {7, 340, 280, 160, 60, 15, 12}, {30, 999, 999, 999, 999, 999, 999}, {30, 0, 0, 0, 0, 0, 0}};

    private static int wrong = 0;
    private static int[] state = {};
    private static String before = "";

    public static void main(String[] args) {
        for (int[] each : STATES) {
            state = each;
            before = answersOf(made());
            for (int a : NUMBERS) {
                changesOfOneArgument(a);
                questionsOfOneArgument(a);
                for (int b : NUMBERS) {
                    changesOfTwoArguments(a, b);
                    questionsOfTwoArguments(a, b);
                }
            }
            questionsWithoutArguments();
        }
        manyRefusalsInARow();
        System.out.println(wrong == 0 ? "all answers are as due" : wrong + " answers are not as due");
        if (wrong != 0) {
            System.exit(1);
        }
    }

    private static SeatShares made() {
        SeatShares x = new SeatShares();
        for (int i = 1; i < state.length; i++) {
            x.list(state[i]);
        }
        x.seats(state[0]);
        return x;
    }

    private static int lists() {
        return state.length - 1;
    }

    private static boolean isThere(int i) {
        return i >= 0 && i < lists();
    }

    private static boolean isWithin(int number, int least, int greatest) {
        return least <= number && number <= greatest;
    }

    private static void fault(String call, String what) {
        wrong++;
        if (wrong <= 50) {
            StringBuilder votes = new StringBuilder();
            for (int i = 1; i < state.length; i++) {
                votes.append(' ').append(state[i]);
            }
            System.out.println(state[0] + " seats, votes" + votes + ": " + call + " " + what);
        }
    }

    // A call that throws is told like any other fault, by an answer that no call has.
    private static int ask(String call, SeatShares x, ToIntFunction<SeatShares> asked) {
        try {
            return asked.applyAsInt(x);
        } catch (RuntimeException thrown) {
            fault(call, "threw " + thrown);
            return MIN;
        }
    }

    private static void dueUnchanged(String call, SeatShares x) {
        String after = answersOf(x);
        if (!after.equals(before)) {
            fault(call, "changed later answers from" + before + " to" + after);
        }
    }

    private static void dueRefused(String call, int code, ToIntFunction<SeatShares> asked) {
        SeatShares x = made();
        int got = ask(call, x, asked);
        if (got != code) {
            fault(call, "answered " + got + ", due is " + code);
        }
        dueUnchanged(call, x);
    }

    private static void dueTaken(String call, int greatest, ToIntFunction<SeatShares> asked) {
        int got = ask(call, made(), asked);
        if (!isWithin(got, 0, greatest)) {
            fault(call, "answered " + got + ", due is 0 to " + greatest);
        }
    }

    // A question that is answered changes no more than one that is refused.
    private static void dueAnswered(String call, boolean mayBeNone, int greatest, ToIntFunction<SeatShares> asked) {
        SeatShares x = made();
        int got = ask(call, x, asked);
        if (!isWithin(got, 0, greatest) && !(mayBeNone && got == NONE)) {
            fault(call, "answered " + got + ", due is 0 to " + greatest + (mayBeNone ? " or NONE" : ""));
        }
        dueUnchanged(call, x);
    }

    private static void change(String call, boolean taken, int greatest, ToIntFunction<SeatShares> asked) {
        if (taken) {
            dueTaken(call, greatest, asked);
        } else {
            dueRefused(call, BAD_ARG, asked);
        }
    }

    private static void question(String call, boolean taken, boolean mayBeNone, int greatest,
            ToIntFunction<SeatShares> asked) {
        if (taken) {
            dueAnswered(call, mayBeNone, greatest, asked);
        } else {
            dueRefused(call, BAD_ARG, asked);
        }
    }

    private static void changesOfOneArgument(int a) {
        if (isWithin(a, 0, 999) && lists() == 6) {
            dueRefused("list(" + a + ")", FULL, x -> x.list(a));
        } else {
            change("list(" + a + ")", isWithin(a, 0, 999), 5, x -> x.list(a));
        }
        change("seats(" + a + ")", isWithin(a, 0, 30), 30, x -> x.seats(a));
        change("bar(" + a + ")", isWithin(a, 0, 100), lists(), x -> x.bar(a));
    }

    private static void changesOfTwoArguments(int a, int b) {
        change("vote(" + a + ", " + b + ")", isThere(a) && isWithin(b, 0, 999), 999, x -> x.vote(a, b));
        change("join(" + a + ", " + b + ")", isThere(a) && isThere(b) && a != b, 999, x -> x.join(a, b));
    }

    private static void questionsWithoutArguments() {
        question("lists()", true, false, 6, x -> x.lists());
        question("votes()", true, false, 5994, x -> x.votes());
    }

    private static void questionsOfOneArgument(int a) {
        boolean isRule = isWithin(a, 0, 6);
        question("next(" + a + ")", isWithin(a, 0, 4), true, lists() - 1, x -> x.next(a));
        question("fall(" + a + ")", isRule, true, 29, x -> x.fall(a));
        question("outside(" + a + ")", isRule, false, lists(), x -> x.outside(a));
        question("majority(" + a + ")", isRule, false, lists(), x -> x.majority(a));
    }

    private static void questionsOfTwoArguments(int a, int b) {
        String arguments = "(" + a + ", " + b + ")";
        boolean isRule = isWithin(a, 0, 6);
        boolean isQuotientRule = isWithin(a, 0, 4);
        question("share" + arguments, isRule && isThere(b), false, 30, x -> x.share(a, b));
        question("missing" + arguments, isQuotientRule && isThere(b), true, 2000, x -> x.missing(a, b));
        question("spare" + arguments, isQuotientRule && isThere(b), false, 999, x -> x.spare(a, b));
        question("moved" + arguments, isRule && isWithin(b, 0, 6), false, 30, x -> x.moved(a, b));
    }

    // All that later calls show of the state, in some 90 calls; the last ones change it.
    private static String answersOf(SeatShares x) {
        StringBuilder all = new StringBuilder();
        add(all, x.lists());
        add(all, x.votes());
        for (int rule = 0; rule <= 6; rule++) {
            for (int i = 0; i < 6; i++) {
                add(all, x.share(rule, i));
            }
            add(all, x.next(rule));
            add(all, x.outside(rule));
            add(all, x.majority(rule));
            add(all, x.moved(rule, 3));
        }
        add(all, x.fall(5));
        add(all, x.seats(0));
        for (int i = 0; i < 6; i++) {
            add(all, x.vote(i, 0));
        }
        add(all, x.list(17));
        add(all, x.votes());
        return all.toString();
    }

    private static void add(StringBuilder all, int answer) {
        all.append(' ').append(answer);
    }

    // 400 refused calls on one object, which has then still the calls left that show its whole state.
    private static void manyRefusalsInARow() {
        for (int[] each : STATES) {
            state = each;
            before = answersOf(made());
            SeatShares x = made();
            for (int round = 0; round < 20; round++) {
                refuseTwenty(x);
            }
            dueUnchanged("400 refused calls", x);
        }
    }

    private static void refuseTwenty(SeatShares x) {
        x.list(-1);
        x.list(1000);
        x.vote(lists(), 5);
        x.vote(0, 1000);
        x.vote(-1, 5);
        x.join(0, 0);
        x.join(0, lists());
        x.join(-1, 0);
        x.seats(31);
        x.seats(-1);
        x.bar(101);
        x.bar(-1);
        x.share(7, 0);
        x.share(0, lists());
        x.next(5);
        x.missing(5, 0);
        x.spare(6, 0);
        x.fall(7);
        x.moved(0, 7);
        x.majority(-1);
    }
}

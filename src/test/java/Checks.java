import java.util.Arrays;
import java.util.function.ToIntFunction;

/** What the boundary tests share: counting wrong answers, and looking at all that an object holds. */
abstract class Checks {
    static final int LOWEST = Integer.MIN_VALUE;
    static final int HIGHEST = Integer.MAX_VALUE;

    private static int wrong = 0;

    static final State NONE = new State("no debts", 2);
    static final State RING = new State("ring", 3, debt(0, 1, 3), debt(1, 2, 2), debt(2, 0, 1));
    static final State ONE_OUT = new State("3 is out", 4,
        debt(0, 1, 3), debt(1, 0, 2), debt(1, 2, 2), debt(2, 3, 1), debt(3, 1, 3)).takenOut(3);
    static final State FULL = new State("full", 5,
        debt(0, 1, 3), debt(1, 0, 2), debt(1, 2, 3), debt(2, 0, 1),
        debt(2, 3, 2), debt(3, 4, 3), debt(4, 2, 1));
    /** Everything that is owed can be struck off. */
    static final State ALL_GO = new State("all can go", 5, debt(0, 1, 3), debt(1, 0, 3),
        debt(0, 1, 3), debt(1, 0, 3), debt(2, 3, 3), debt(3, 4, 3), debt(4, 2, 3));
    static final State[] STATES = {NONE, RING, ONE_OUT, FULL};

    static void due(String call, int got, int want) {
        if (got != want) {
            wrong++;
            System.out.println(call + " answered " + got + ", due is " + want);
        }
    }

    static void finish() {
        System.out.println(wrong == 0 ? "all answers are as due" : wrong + " answers are not as due");
        if (wrong != 0) {
            System.exit(1);
        }
    }

    static int[] debt(int debtor, int creditor, int amount) {
        return new int[] {debtor, creditor, amount};
    }

    /**
     * Numbers outside of 0 .. end-1: next to it, far from it, and such as a byte, a short or the
     * low bits of an int would take for one inside.
     */
    static int[] outside(int end) {
        int[] all = {LOWEST, LOWEST + 1, -65536, -65535, -256, -255, -2, -1, end, end + 1,
            256, 257, 65536, 65537, 1 << 30, (1 << 30) + 1, HIGHEST - 1, HIGHEST};
        return Arrays.stream(all).filter(number -> number < 0 || number >= end).toArray();
    }

    /** A question or a refused call: its answer, and that nothing has changed. */
    static void changesNothing(State state, String call, ToIntFunction<ObligationNetting> made, int want) {
        changes(state, call, made, want, state);
    }

    /** One call on a new object in a given state: its answer, and all that the object holds then. */
    static void changes(State state, String call, ToIntFunction<ObligationNetting> made, int want,
            State then) {
        ObligationNetting x = state.make();
        due(state.name + ": " + call, made.applyAsInt(x), want);
        holds(state.name + ": after " + call, x, then);
    }

    /**
     * That an object holds just this. The state is read before the clearings are asked for, and is
     * put back where reading it takes a change; some 120 calls.
     */
    static void holds(String when, ObligationNetting x, State want) {
        amountsDue(when, x, want);
        balancesDue(when, x, want);
        outDue(when, x, want);
        partiesDue(when, x, want);
        clearingsDue(when, x, want);
    }

    private static void amountsDue(String when, ObligationNetting x, State want) {
        due(when + ": debts()", x.debts(), want.debts.length);
        int sum = 0;
        for (int debt = -1; debt <= 7; debt++) {
            boolean good = debt >= 0 && debt < want.debts.length;
            due(when + ": amount(" + debt + ")", x.amount(debt), good ? want.debts[debt][2] : -1);
            sum += good ? want.debts[debt][2] : 0;
        }
        due(when + ": outstanding()", x.outstanding(), sum);
    }

    private static void balancesDue(String when, ObligationNetting x, State want) {
        for (int firm = -1; firm <= 5; firm++) {
            boolean good = firm >= 0 && firm < want.firms;
            due(when + ": balance(" + firm + ")", x.balance(firm), good ? want.balance(firm) : -1000);
        }
    }

    private static void outDue(String when, ObligationNetting x, State want) {
        for (int firm = 0; firm < want.firms; firm++) {
            int flag = want.out[firm] ? 1 : 0;
            due(when + ": was " + firm + " out", x.exclude(firm, 0), flag);
            x.exclude(firm, flag);
        }
    }

    /** Who owes and who is owed shows in the balances while all other amounts are 0. */
    private static void partiesDue(String when, ObligationNetting x, State want) {
        for (int debt = 0; debt < want.debts.length; debt++) {
            x.change(debt, 0);
        }
        for (int debt = 0; debt < want.debts.length; debt++) {
            x.change(debt, 1);
            for (int firm = 0; firm < want.firms; firm++) {
                int side = firm == want.debts[debt][0] ? -1 : firm == want.debts[debt][1] ? 1 : 0;
                due(when + ": side of " + firm + " in debt " + debt, x.balance(firm), side);
            }
            x.change(debt, 0);
        }
        for (int debt = 0; debt < want.debts.length; debt++) {
            x.change(debt, want.debts[debt][2]);
        }
    }

    /** The answers about clearings are compared with those of an object that was only just made. */
    private static void clearingsDue(String when, ObligationNetting x, State want) {
        int[] fresh = want.clearingAnswers();
        int[] got = clearingAnswers(x, want);
        for (int i = 0; i < fresh.length; i++) {
            due(when + ": answer " + i + " about clearings", got[i], fresh[i]);
        }
    }

    private static int[] clearingAnswers(ObligationNetting x, State state) {
        int[] answers = new int[4 + state.firms + state.debts.length];
        answers[0] = x.best();
        answers[1] = x.bestCode();
        answers[2] = x.possible();
        answers[3] = x.least();
        for (int firm = 0; firm < state.firms; firm++) {
            answers[4 + firm] = x.weight(firm);
        }
        for (int debt = 0; debt < state.debts.length; debt++) {
            answers[4 + state.firms + debt] = x.most(debt);
        }
        return answers;
    }

    /** What an object is due to hold: a debt is {debtor, creditor, amount}. What it says never changes. */
    static final class State {
        final String name;
        final int firms;
        final int[][] debts;
        final boolean[] out;
        private int[] clearingAnswers;

        State(String name, int firms, int[]... debts) {
            this(name, firms, debts, new boolean[firms]);
        }

        private State(String name, int firms, int[][] debts, boolean[] out) {
            this.name = name;
            this.firms = firms;
            this.debts = debts;
            this.out = out;
        }

        ObligationNetting make() {
            ObligationNetting x = new ObligationNetting(firms);
            for (int[] debt : debts) {
                x.owe(debt[0], debt[1], debt[2]);
            }
            for (int firm = 0; firm < firms; firm++) {
                if (out[firm]) {
                    x.exclude(firm, 1);
                }
            }
            return x;
        }

        /** Asked for once, since it takes most of the tests' time. */
        int[] clearingAnswers() {
            if (clearingAnswers == null) {
                clearingAnswers = Checks.clearingAnswers(make(), this);
            }
            return clearingAnswers;
        }

        int balance(int firm) {
            int sum = 0;
            for (int[] debt : debts) {
                sum += debt[1] == firm ? debt[2] : debt[0] == firm ? -debt[2] : 0;
            }
            return sum;
        }

        State takenOut(int... which) {
            boolean[] changed = out.clone();
            for (int firm : which) {
                changed[firm] = true;
            }
            return new State(name, firms, debts, changed);
        }

        State takenIn(int firm) {
            boolean[] changed = out.clone();
            changed[firm] = false;
            return new State(name, firms, debts, changed);
        }

        State allOut() {
            boolean[] changed = new boolean[firms];
            Arrays.fill(changed, true);
            return new State(name + ", all out", firms, debts, changed);
        }

        State owed(int debtor, int creditor, int amount) {
            int[][] more = Arrays.copyOf(debts, debts.length + 1);
            more[debts.length] = debt(debtor, creditor, amount);
            return new State(name, firms, more, out);
        }

        State changed(int debt, int amount) {
            int[][] other = debts.clone();
            other[debt] = debt(debts[debt][0], debts[debt][1], amount);
            return new State(name, firms, other, out);
        }

        State amounts(int... amounts) {
            State state = this;
            for (int debt = 0; debt < amounts.length; debt++) {
                state = state.changed(debt, amounts[debt]);
            }
            return state;
        }

        State paid(int debt) {
            int[][] fewer = new int[debts.length - 1][];
            System.arraycopy(debts, 0, fewer, 0, debt);
            System.arraycopy(debts, debt + 1, fewer, debt, fewer.length - debt);
            return new State(name, firms, fewer, out);
        }

        /** The first so many debts of this one. */
        State first(int count) {
            return new State("first " + count + " of " + name, firms, Arrays.copyOf(debts, count), out);
        }
    }
}

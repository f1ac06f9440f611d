/** Promises 1 to 7, what changes an object: each sentence that names a boundary, with a test of its own. */
public final class CallsBoundaryTest extends Checks {
    private static final int[] FLAGS_NOT_ZERO =
        {LOWEST, LOWEST + 1, -65536, -256, -1, 1, 2, 3, 256, 65536, 1 << 30, HIGHEST};

    public static void main(String[] args) {
        fewerThanTwoFirmsBecomeTwo();
        moreThanFiveFirmsBecomeFive();
        twoToFiveFirmsStay();
        oweWithAFirmNotGood();
        oweToOneself();
        oweAnAmountOutside();
        oweOnAFullList();
        oweAnswersItsNumber();
        oweByAndToFirmsThatAreOut();
        changeOfADebtNotGood();
        changeToAnAmountOutside();
        changeAnswersTheOneBefore();
        payOfADebtNotGood();
        payMovesLaterDebts();
        payDownToNone();
        excludeOfAFirmNotGood();
        excludeByAnyFlagButZero();
        excludeWithZeroTakesInAgain();
        clearWithNothingToStrike();
        clearStrikesTheBestOff();
        clearTwice();
        carryOutOfNoClearing();
        carryOutAnswersTheTotal();
        carryOutUntilNothingIsLeft();
        finish();
    }

    private static void firmsDue(int given, int want) {
        String when = "new(" + given + ")";
        ObligationNetting x = new ObligationNetting(given);
        State state = new State(when, want);
        holds(when, x, state);
        due(when + ": owe(0, past, 1)", x.owe(0, want, 1), -1);
        due(when + ": owe(past, 0, 1)", x.owe(want, 0, 1), -1);
        due(when + ": exclude(past, 1)", x.exclude(want, 1), -1);
        due(when + ": weight(past)", x.weight(want), -1);
        due(when + ": owe(last, 0, 2)", x.owe(want - 1, 0, 2), 0);
        due(when + ": exclude(last, 1)", x.exclude(want - 1, 1), 0);
        due(when + ": weight(last)", x.weight(want - 1), 0);
        holds(when + " then", x, state.owed(want - 1, 0, 2).takenOut(want - 1));
    }

    /** Promise 1: "below 2 becomes 2" */
    private static void fewerThanTwoFirmsBecomeTwo() {
        int[] below = {LOWEST, LOWEST + 1, LOWEST + 3, -65533, -65536, -253, -5, -3, -2, -1, 0, 1};
        for (int given : below) {
            firmsDue(given, 2);
        }
    }

    /** Promise 1: "above 5 becomes 5" */
    private static void moreThanFiveFirmsBecomeFive() {
        int[] above = {6, 7, 8, 100, 256, 259, 65536, 65539, 1 << 30, HIGHEST - 1, HIGHEST};
        for (int given : above) {
            firmsDue(given, 5);
        }
    }

    /** Promise 1: "firms is n" */
    private static void twoToFiveFirmsStay() {
        for (int given = 2; given <= 5; given++) {
            firmsDue(given, given);
        }
    }

    /** Promise 2: "-1 if debtor or creditor is not good" */
    private static void oweWithAFirmNotGood() {
        for (State state : STATES) {
            int last = state.firms - 1;
            for (int bad : outside(state.firms)) {
                changesNothing(state, "owe(" + bad + ", 0, 1)", x -> x.owe(bad, 0, 1), -1);
                changesNothing(state, "owe(" + bad + ", last, 1)", x -> x.owe(bad, last, 1), -1);
                changesNothing(state, "owe(0, " + bad + ", 1)", x -> x.owe(0, bad, 1), -1);
                changesNothing(state, "owe(last, " + bad + ", 1)", x -> x.owe(last, bad, 1), -1);
                changesNothing(state, "owe(" + bad + " twice, 1)", x -> x.owe(bad, bad, 1), -1);
            }
        }
    }

    /** Promise 2: "-2 if they are the same" */
    private static void oweToOneself() {
        for (State state : STATES) {
            for (int firm = 0; firm < state.firms; firm++) {
                int self = firm;
                for (int amount = -1; amount <= 4; amount++) {
                    int given = amount;
                    changesNothing(state, "owe(" + self + " twice, " + given + ")",
                        x -> x.owe(self, self, given), -2);
                }
            }
        }
    }

    /** Promise 2: "-3 if amount is not in 0 .. 3" */
    private static void oweAnAmountOutside() {
        for (State state : STATES) {
            for (int bad : outside(4)) {
                changesNothing(state, "owe(0, 1, " + bad + ")", x -> x.owe(0, 1, bad), -3);
                changesNothing(state, "owe(1, 0, " + bad + ")", x -> x.owe(1, 0, bad), -3);
            }
        }
    }

    /** Promise 2: "-4 if there are 7 debts" */
    private static void oweOnAFullList() {
        for (int debtor = 0; debtor < 5; debtor++) {
            for (int amount = 0; amount <= 3; amount++) {
                int from = debtor;
                int to = (debtor + 1) % 5;
                int given = amount;
                String call = "owe(" + from + ", " + to + ", " + given + ")";
                changesNothing(FULL, call, x -> x.owe(from, to, given), -4);
                changes(FULL.first(6), call, x -> x.owe(from, to, given), 6,
                    FULL.first(6).owed(from, to, given));
            }
        }
        // Debts of 0 take their places too.
        State zeros = FULL.amounts(0, 0, 0, 0, 0, 0, 0);
        changesNothing(zeros, "owe(0, 1, 1) after seven of 0", x -> x.owe(0, 1, 1), -4);
        changesNothing(FULL.allOut(), "owe(0, 1, 1) with all out", x -> x.owe(0, 1, 1), -4);
    }

    /** Promise 2: "Puts a debt at the end of the list .. otherwise answers its number." */
    private static void oweAnswersItsNumber() {
        for (int count = 0; count < 7; count++) {
            State state = FULL.first(count);
            changes(state, "owe(4, 0, 0)", x -> x.owe(4, 0, 0), count, state.owed(4, 0, 0));
            changes(state, "owe(0, 4, 3)", x -> x.owe(0, 4, 3), count, state.owed(0, 4, 3));
        }
        // The same debt may stand in the list more than once.
        State twice = NONE.owed(0, 1, 2);
        changes(twice, "owe(0, 1, 2) again", x -> x.owe(0, 1, 2), 1, twice.owed(0, 1, 2));
    }

    /** Promise 2 names no firm that is out: such a one may owe and be owed. */
    private static void oweByAndToFirmsThatAreOut() {
        changes(ONE_OUT, "owe(3, 0, 1)", x -> x.owe(3, 0, 1), 5, ONE_OUT.owed(3, 0, 1));
        changes(ONE_OUT, "owe(0, 3, 1)", x -> x.owe(0, 3, 1), 5, ONE_OUT.owed(0, 3, 1));
        State all = RING.allOut();
        changes(all, "owe(0, 1, 3)", x -> x.owe(0, 1, 3), 3, all.owed(0, 1, 3));
    }

    /** Promise 3: "-1 if debt is not good" */
    private static void changeOfADebtNotGood() {
        for (State state : STATES) {
            for (int bad : outside(state.debts.length)) {
                for (int amount = -1; amount <= 4; amount++) {
                    int given = amount;
                    changesNothing(state, "change(" + bad + ", " + given + ")", x -> x.change(bad, given), -1);
                }
            }
        }
    }

    /** Promise 3: "-2 if amount is not in 0 .. 3" */
    private static void changeToAnAmountOutside() {
        for (State state : STATES) {
            for (int debt = 0; debt < state.debts.length; debt++) {
                int good = debt;
                for (int bad : outside(4)) {
                    changesNothing(state, "change(" + good + ", " + bad + ")", x -> x.change(good, bad), -2);
                }
            }
        }
    }

    /** Promise 3: "otherwise answers the one before" */
    private static void changeAnswersTheOneBefore() {
        for (int before = 0; before <= 3; before++) {
            for (int after = 0; after <= 3; after++) {
                int given = after;
                String call = "change from " + before + " to " + after + " of debt ";
                for (int debt = 0; debt < 3; debt++) {
                    int good = debt;
                    State state = RING.changed(debt, before);
                    changes(state, call + debt, x -> x.change(good, given), before,
                        state.changed(debt, after));
                }
                State last = FULL.changed(6, before);
                changes(last, call + 6, x -> x.change(6, given), before, last.changed(6, after));
                State out = ONE_OUT.changed(4, before);
                changes(out, call + "a firm that is out", x -> x.change(4, given), before,
                    out.changed(4, after));
            }
        }
    }

    /** Promise 4: "-1 if debt is not good" */
    private static void payOfADebtNotGood() {
        for (State state : STATES) {
            for (int bad : outside(state.debts.length)) {
                changesNothing(state, "pay(" + bad + ")", x -> x.pay(bad), -1);
            }
        }
    }

    /** Promise 4: "Takes a debt out; later ones get numbers less by one." */
    private static void payMovesLaterDebts() {
        for (State state : STATES) {
            for (int debt = 0; debt < state.debts.length; debt++) {
                int good = debt;
                changes(state, "pay(" + good + ")", x -> x.pay(good), state.debts.length - 1,
                    state.paid(good));
            }
        }
        State zero = FULL.changed(3, 0);
        changes(zero, "pay(3) of 0", x -> x.pay(3), 6, zero.paid(3));
    }

    /** Promise 4: "answers how many are left", down to 0, and then there is none to take out. */
    private static void payDownToNone() {
        ObligationNetting front = FULL.make();
        ObligationNetting back = FULL.make();
        for (int left = 6; left >= 0; left--) {
            due("pay(0), " + left + " left", front.pay(0), left);
            due("pay(last), " + left + " left", back.pay(left), left);
            due("amount(last) gone", back.amount(left), -1);
        }
        State none = new State("none left", 5);
        due("pay(0) of none, from the front", front.pay(0), -1);
        due("pay(0) of none, from the back", back.pay(0), -1);
        holds("none left, from the front", front, none);
        holds("none left, from the back", back, none);
        due("owe after none were left", front.owe(3, 4, 2), 0);
        holds("one again", front, none.owed(3, 4, 2));
    }

    /** Promise 5: "-1 if firm is not good" */
    private static void excludeOfAFirmNotGood() {
        for (State state : STATES) {
            for (int bad : outside(state.firms)) {
                changesNothing(state, "exclude(" + bad + ", 1)", x -> x.exclude(bad, 1), -1);
                changesNothing(state, "exclude(" + bad + ", 0)", x -> x.exclude(bad, 0), -1);
                changesNothing(state, "exclude(" + bad + ", LOWEST)", x -> x.exclude(bad, LOWEST), -1);
            }
        }
    }

    /** Promise 5: "Takes a firm out (flag not 0) .. 1 if it was out before, else 0." */
    private static void excludeByAnyFlagButZero() {
        for (State state : STATES) {
            for (int firm = 0; firm < state.firms; firm++) {
                int good = firm;
                for (int flag : FLAGS_NOT_ZERO) {
                    String call = "exclude(" + good + ", " + flag + ")";
                    changes(state, call, x -> x.exclude(good, flag), state.out[good] ? 1 : 0,
                        state.takenOut(good));
                    changesNothing(state.takenOut(good), call + " while out", x -> x.exclude(good, flag), 1);
                }
            }
        }
    }

    /** Promise 5: "or in again (flag 0) .. 1 if it was out before, else 0" */
    private static void excludeWithZeroTakesInAgain() {
        for (State state : STATES) {
            State all = state.allOut();
            for (int firm = 0; firm < state.firms; firm++) {
                int good = firm;
                String call = "exclude(" + good + ", 0)";
                changes(all, call, x -> x.exclude(good, 0), 1, all.takenIn(good));
                changes(state, call, x -> x.exclude(good, 0), state.out[good] ? 1 : 0,
                    state.takenIn(good));
                changesNothing(state.takenIn(good), call + " while in", x -> x.exclude(good, 0), 0);
            }
        }
    }

    /** Promise 6: with no debts, none in a ring, or all firms out, the best clearing strikes nothing off. */
    private static void clearWithNothingToStrike() {
        State chain = new State("chain", 5, debt(0, 1, 3), debt(1, 2, 3), debt(2, 3, 3), debt(3, 4, 3));
        State[] still = {NONE, NONE.owed(0, 1, 3), chain, RING.changed(1, 0), RING.takenOut(2),
            FULL.allOut(), FULL.amounts(0, 0, 0, 0, 0, 0, 0)};
        for (State state : still) {
            changesNothing(state, "clear()", x -> x.clear(), 0);
        }
    }

    /** Promise 6: "every debt's amount falls by what it strikes off it. Answers its total." */
    private static void clearStrikesTheBestOff() {
        State pair = NONE.owed(0, 1, 1).owed(1, 0, 1);
        changes(pair, "clear()", x -> x.clear(), 2, pair.amounts(0, 0));
        changes(RING, "clear()", x -> x.clear(), 3, RING.amounts(2, 1, 0));
        changes(ONE_OUT, "clear()", x -> x.clear(), 4, ONE_OUT.amounts(1, 0, 2, 1, 3));
        changes(FULL, "clear()", x -> x.clear(), 10, FULL.amounts(0, 0, 2, 0, 1, 2, 0));
        changes(ALL_GO, "clear()", x -> x.clear(), 21, ALL_GO.amounts(0, 0, 0, 0, 0, 0, 0));
        State tie = NONE.owed(0, 1, 2).owed(0, 1, 2).owed(1, 0, 3);
        changes(tie, "clear() of a tie", x -> x.clear(), 6, tie.amounts(1, 0, 0));
    }

    /** Promise 6: after the best clearing is carried out, none is left that strikes something off. */
    private static void clearTwice() {
        for (State state : STATES) {
            ObligationNetting x = state.make();
            int total = x.best();
            due(state.name + ": clear()", x.clear(), total);
            due(state.name + ": possible() then", x.possible(), 0);
            due(state.name + ": clear() again", x.clear(), 0);
            for (int firm = 0; firm < state.firms; firm++) {
                due(state.name + ": balance(" + firm + ") kept", x.balance(firm), state.balance(firm));
            }
            due(state.name + ": debts() kept", x.debts(), state.debts.length);
        }
    }

    /** Promise 7: "-1 if code is not that of a clearing" */
    private static void carryOutOfNoClearing() {
        for (State state : STATES) {
            for (int bad : outside(1 << (2 * state.debts.length))) {
                changesNothing(state, "carryOut(" + bad + ")", x -> x.carryOut(bad), -1);
            }
        }
        for (int code = -2; code < 70; code++) {
            if (code != 0 && code != 21) {
                int bad = code;
                changesNothing(RING, "carryOut(" + bad + ")", x -> x.carryOut(bad), -1);
            }
        }
        changesNothing(RING, "carryOut(42): more than is owed", x -> x.carryOut(42), -1);
        for (int firm = 0; firm < 3; firm++) {
            changesNothing(RING.takenOut(firm), "carryOut(21): a firm out", x -> x.carryOut(21), -1);
        }
        changesNothing(FULL, "carryOut(14677 + 1): last not even", x -> x.carryOut(14678), -1);
        changesNothing(FULL, "carryOut(16383)", x -> x.carryOut(16383), -1);
        changesNothing(ALL_GO, "carryOut(16384)", x -> x.carryOut(16384), -1);
    }

    /** Promise 7: "Carries the clearing with this code out .. otherwise answers its total." */
    private static void carryOutAnswersTheTotal() {
        for (State state : STATES) {
            changesNothing(state, "carryOut(0)", x -> x.carryOut(0), 0);
            changesNothing(state.allOut(), "carryOut(0)", x -> x.carryOut(0), 0);
        }
        changes(RING, "carryOut(21)", x -> x.carryOut(21), 3, RING.amounts(2, 1, 0));
        // Clearings that are not the best one: by total, and by code.
        changes(FULL, "carryOut(5120)", x -> x.carryOut(4096 + 1024), 2,
            FULL.amounts(2, 1, 3, 1, 2, 3, 1));
        changes(FULL, "carryOut(21)", x -> x.carryOut(21), 3, FULL.amounts(3, 2, 3, 1, 1, 2, 0));
        State tie = NONE.owed(0, 1, 2).owed(0, 1, 2).owed(1, 0, 3);
        changes(tie, "carryOut(2, 1, 3)", x -> x.carryOut(32 + 4 + 3), 6, tie.amounts(0, 1, 0));
        changes(FULL, "carryOut(14677)", x -> x.carryOut(14677), 10, FULL.amounts(0, 0, 2, 0, 1, 2, 0));
        changes(ALL_GO, "carryOut(16383)", x -> x.carryOut(16383), 21,
            ALL_GO.amounts(0, 0, 0, 0, 0, 0, 0));
        changes(ONE_OUT, "carryOut(640)", x -> x.carryOut(2 * 256 + 2 * 64), 4,
            ONE_OUT.amounts(1, 0, 2, 1, 3));
    }

    /** Promise 7: what one clearing has struck off, the next can't. */
    private static void carryOutUntilNothingIsLeft() {
        State pair = NONE.owed(0, 1, 3).owed(1, 0, 2);
        ObligationNetting x = pair.make();
        due("carryOut(5)", x.carryOut(5), 2);
        due("carryOut(10) is too much now", x.carryOut(10), -1);
        due("carryOut(5) again", x.carryOut(5), 2);
        due("carryOut(5) once more", x.carryOut(5), -1);
        holds("after carryOut until nothing is left", x, pair.amounts(1, 0));
        due("carryOut(0) still", x.carryOut(0), 0);
    }
}

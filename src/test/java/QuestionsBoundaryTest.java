/** Promises 8 to 18, the questions: each sentence that names a boundary, with a test of its own. */
public final class QuestionsBoundaryTest extends Checks {
    /** Everything owed by firm 0 to firm 1. */
    private static final State ONE_WAY = new State("one way", 2, debt(0, 1, 3), debt(0, 1, 3),
        debt(0, 1, 3), debt(0, 1, 3), debt(0, 1, 3), debt(0, 1, 3), debt(0, 1, 3));

    public static void main(String[] args) {
        debtsFromNoneToSeven();
        amountOfADebt();
        amountOfADebtNotGood();
        balanceOfAFirm();
        balanceOfAFirmNotGood();
        outstandingFromNothingToAll();
        bestFromNothingToAll();
        bestCodeFromNothingToAll();
        isClearingOverAllCodes();
        isClearingOfNoCode();
        weightOfAFirm();
        weightOfAFirmThatIsOut();
        weightOfAFirmNotGood();
        mostOffADebt();
        mostOfAnyClearingNotOnlyTheBest();
        mostOfADebtNotGood();
        possibleIfSomethingIsStruckOff();
        leastFromNothingToAll();
        leastGivesEveryFirmItsBalance();
        finish();
    }

    /** Promise 8: "How many debts there are.", of 0 to 7 */
    private static void debtsFromNoneToSeven() {
        for (int count = 0; count <= 7; count++) {
            changesNothing(FULL.first(count), "debts()", x -> x.debts(), FULL.first(count).debts.length);
        }
        ObligationNetting x = FULL.make();
        x.owe(0, 1, 1);
        due("debts() after an eighth", x.debts(), 7);
        x.clear();
        due("debts() after clear()", x.debts(), 7);
        x.pay(6);
        due("debts() after pay(6)", x.debts(), 6);
        x.pay(6);
        due("debts() after a refused pay", x.debts(), 6);
    }

    /** Promise 9: "The amount of a debt", of 0 to 3 */
    private static void amountOfADebt() {
        State state = new State("0 to 3", 2, debt(0, 1, 0), debt(0, 1, 1), debt(0, 1, 2), debt(0, 1, 3),
            debt(1, 0, 3), debt(1, 0, 0), debt(1, 0, 2));
        int[] want = {0, 1, 2, 3, 3, 0, 2};
        for (int debt = 0; debt < 7; debt++) {
            int good = debt;
            changesNothing(state, "amount(" + good + ")", x -> x.amount(good), want[good]);
            changesNothing(state.allOut(), "amount(" + good + ")", x -> x.amount(good), want[good]);
        }
    }

    /** Promise 9: "-1 if debt is not good" */
    private static void amountOfADebtNotGood() {
        for (State state : STATES) {
            for (int bad : outside(state.debts.length)) {
                changesNothing(state, "amount(" + bad + ")", x -> x.amount(bad), -1);
            }
        }
        ObligationNetting x = ONE_WAY.make();
        for (int left = 6; left >= 0; left--) {
            x.pay(0);
            due("amount(" + left + ") after pay", x.amount(left), -1);
        }
    }

    /** Promise 10: "The balance of a firm", of -21 to 21 */
    private static void balanceOfAFirm() {
        changesNothing(ONE_WAY, "balance(0)", x -> x.balance(0), -21);
        changesNothing(ONE_WAY, "balance(1)", x -> x.balance(1), 21);
        changesNothing(NONE, "balance(0)", x -> x.balance(0), 0);
        changesNothing(NONE, "balance(1)", x -> x.balance(1), 0);
        int[] full = {0, -2, 1, -1, 2};
        int[] oneOut = {-1, 2, 1, -2};
        for (int firm = 0; firm < 5; firm++) {
            int good = firm;
            changesNothing(FULL, "balance(" + good + ")", x -> x.balance(good), full[good]);
            changesNothing(ALL_GO, "balance(" + good + ")", x -> x.balance(good), 0);
        }
        for (int firm = 0; firm < 4; firm++) {
            int good = firm;
            changesNothing(ONE_OUT, "balance(" + good + ")", x -> x.balance(good), oneOut[good]);
        }
    }

    /** Promise 10: "-1000 if firm is not good" */
    private static void balanceOfAFirmNotGood() {
        for (State state : STATES) {
            for (int bad : outside(state.firms)) {
                changesNothing(state, "balance(" + bad + ")", x -> x.balance(bad), -1000);
            }
        }
    }

    /** Promise 11: "The sum of all amounts.", of 0 to 21 */
    private static void outstandingFromNothingToAll() {
        changesNothing(NONE, "outstanding()", x -> x.outstanding(), 0);
        changesNothing(FULL.amounts(0, 0, 0, 0, 0, 0, 0), "outstanding()", x -> x.outstanding(), 0);
        changesNothing(FULL.amounts(0, 0, 0, 0, 0, 0, 1), "outstanding()", x -> x.outstanding(), 1);
        changesNothing(FULL.amounts(1, 0, 0, 0, 0, 0, 0), "outstanding()", x -> x.outstanding(), 1);
        changesNothing(FULL, "outstanding()", x -> x.outstanding(), 15);
        changesNothing(FULL.allOut(), "outstanding()", x -> x.outstanding(), 15);
        changesNothing(ONE_WAY, "outstanding()", x -> x.outstanding(), 21);
        ObligationNetting x = FULL.make();
        x.clear();
        due("outstanding() after clear()", x.outstanding(), 5);
        x.pay(2);
        due("outstanding() after pay(2)", x.outstanding(), 3);
    }

    /** Promise 12: "The total of the best clearing.", of 0 to 21 */
    private static void bestFromNothingToAll() {
        changesNothing(NONE, "best()", x -> x.best(), 0);
        changesNothing(ONE_WAY, "best()", x -> x.best(), 0);
        changesNothing(NONE.owed(0, 1, 1).owed(1, 0, 1), "best()", x -> x.best(), 2);
        changesNothing(RING, "best()", x -> x.best(), 3);
        changesNothing(ONE_OUT, "best()", x -> x.best(), 4);
        changesNothing(ONE_OUT.takenIn(3), "best()", x -> x.best(), 7);
        changesNothing(FULL, "best()", x -> x.best(), 10);
        changesNothing(FULL.allOut(), "best()", x -> x.best(), 0);
        changesNothing(ALL_GO, "best()", x -> x.best(), 21);
    }

    /** Promise 13: "The code of the best clearing (better than all others).", of 0 to 16383 */
    private static void bestCodeFromNothingToAll() {
        changesNothing(NONE, "bestCode()", x -> x.bestCode(), 0);
        changesNothing(ONE_WAY, "bestCode()", x -> x.bestCode(), 0);
        changesNothing(NONE.owed(0, 1, 1).owed(1, 0, 1), "bestCode()", x -> x.bestCode(), 5);
        changesNothing(RING, "bestCode()", x -> x.bestCode(), 21);
        changesNothing(ONE_OUT, "bestCode()", x -> x.bestCode(), 2 * 256 + 2 * 64);
        changesNothing(ONE_OUT.takenIn(3), "bestCode()", x -> x.bestCode(), 2 * 256 + 2 * 64 + 21);
        changesNothing(FULL, "bestCode()", x -> x.bestCode(), 14677);
        changesNothing(FULL.allOut(), "bestCode()", x -> x.bestCode(), 0);
        changesNothing(ALL_GO, "bestCode()", x -> x.bestCode(), 16383);
        State tie = NONE.owed(0, 1, 1).owed(0, 1, 1).owed(1, 0, 1);
        changesNothing(tie, "bestCode() of a tie", x -> x.bestCode(), 5);
        changesNothing(tie.changed(1, 0), "bestCode() of no tie", x -> x.bestCode(), 17);
    }

    /** Promise 14: "1 if the code is that of a clearing, otherwise 0" */
    private static void isClearingOverAllCodes() {
        changesNothing(NONE, "isClearing(0)", x -> x.isClearing(0), 1);
        for (int code = 0; code < 64; code++) {
            int asked = code;
            changesNothing(RING, "isClearing(" + code + ")", x -> x.isClearing(asked),
                code == 0 || code == 21 ? 1 : 0);
            changesNothing(RING.takenOut(1), "1 out: isClearing(" + code + ")", x -> x.isClearing(asked),
                code == 0 ? 1 : 0);
            changesNothing(RING.amounts(3, 3, 3), "3, 3, 3: isClearing(" + code + ")",
                x -> x.isClearing(asked), code % 21 == 0 ? 1 : 0);
        }
        // 0 to 2 off the pair, 0 or 1 off the ring by way of debt 2, 0 or 1 off that of 2, 3, 4.
        int found = 0;
        for (int code = 0; code < 16384; code += 400) {
            ObligationNetting x = FULL.make();
            for (int next = code; next < code + 400; next++) {
                found += x.isClearing(next);
            }
        }
        due("full: how many clearings", found, 12);
        changesNothing(ALL_GO, "isClearing(16383)", x -> x.isClearing(16383), 1);
        changesNothing(ALL_GO, "isClearing(16382)", x -> x.isClearing(16382), 0);
    }

    /** Promise 14: no code at all */
    private static void isClearingOfNoCode() {
        for (State state : STATES) {
            for (int bad : outside(1 << (2 * state.debts.length))) {
                changesNothing(state, "isClearing(" + bad + ")", x -> x.isClearing(bad), 0);
            }
        }
        changesNothing(ALL_GO, "isClearing(16384)", x -> x.isClearing(16384), 0);
        changesNothing(ALL_GO, "isClearing(32767)", x -> x.isClearing(32767), 0);
    }

    /** Promise 15: "How much less the total of the best clearing would be if the firm were out" */
    private static void weightOfAFirm() {
        int[] full = {7, 7, 6, 3, 3};
        int[] allGo = {12, 12, 9, 9, 9};
        for (int firm = 0; firm < 5; firm++) {
            int good = firm;
            changesNothing(FULL, "weight(" + good + ")", x -> x.weight(good), full[good]);
            changesNothing(ALL_GO, "weight(" + good + ")", x -> x.weight(good), allGo[good]);
        }
        for (int firm = 0; firm < 2; firm++) {
            int good = firm;
            changesNothing(NONE, "weight(" + good + ")", x -> x.weight(good), 0);
            changesNothing(ONE_WAY, "weight(" + good + ")", x -> x.weight(good), 0);
        }
        // Two ways back of equal length: either can stand in for the other.
        State rings = new State("two ways back", 4, debt(0, 1, 1), debt(1, 2, 1), debt(2, 0, 1),
            debt(1, 3, 1), debt(3, 0, 1));
        int[] want = {3, 3, 0, 0};
        for (int firm = 0; firm < 4; firm++) {
            int good = firm;
            changesNothing(rings, "weight(" + good + ")", x -> x.weight(good), want[good]);
        }
    }

    /** Promise 15: "(0 if it is out)" */
    private static void weightOfAFirmThatIsOut() {
        changesNothing(ONE_OUT, "weight(3)", x -> x.weight(3), 0);
        changesNothing(ONE_OUT, "weight(0)", x -> x.weight(0), 4);
        changesNothing(ONE_OUT, "weight(2)", x -> x.weight(2), 0);
        changesNothing(ONE_OUT.takenIn(3), "weight(3)", x -> x.weight(3), 3);
        changesNothing(ONE_OUT.takenIn(3), "weight(2)", x -> x.weight(2), 3);
        for (int firm = 0; firm < 5; firm++) {
            int good = firm;
            changesNothing(FULL.takenOut(good), "out: weight(" + good + ")", x -> x.weight(good), 0);
            changesNothing(FULL.allOut(), "weight(" + good + ")", x -> x.weight(good), 0);
        }
    }

    /** Promise 15: "-1 if firm is not good" */
    private static void weightOfAFirmNotGood() {
        for (State state : STATES) {
            for (int bad : outside(state.firms)) {
                changesNothing(state, "weight(" + bad + ")", x -> x.weight(bad), -1);
            }
        }
    }

    /** Promise 16: "The greatest amount that a clearing strikes off a debt", of 0 to 3 */
    private static void mostOffADebt() {
        int[] full = {3, 2, 1, 1, 1, 1, 1};
        int[] oneOut = {2, 2, 0, 0, 0};
        int[] allIn = {2, 2, 1, 1, 1};
        for (int debt = 0; debt < 7; debt++) {
            int good = debt;
            changesNothing(FULL, "most(" + good + ")", x -> x.most(good), full[good]);
            changesNothing(FULL.allOut(), "most(" + good + ")", x -> x.most(good), 0);
            changesNothing(ALL_GO, "most(" + good + ")", x -> x.most(good), 3);
            changesNothing(ONE_WAY, "most(" + good + ")", x -> x.most(good), 0);
        }
        for (int debt = 0; debt < 5; debt++) {
            int good = debt;
            changesNothing(ONE_OUT, "most(" + good + ")", x -> x.most(good), oneOut[good]);
            changesNothing(ONE_OUT.takenIn(3), "most(" + good + ")", x -> x.most(good), allIn[good]);
        }
        // Only the code with the digit 3 for every debt strikes 3 off.
        State pair = NONE.owed(0, 1, 3).owed(1, 0, 3);
        changesNothing(pair, "most(0) of a pair", x -> x.most(0), 3);
        changesNothing(pair, "most(1) of a pair", x -> x.most(1), 3);
        for (int debt = 0; debt < 3; debt++) {
            int good = debt;
            changesNothing(RING.changed(2, 0), "a debt of 0: most(" + good + ")", x -> x.most(good), 0);
        }
    }

    /** Promise 16: "a clearing", which need not be the best one */
    private static void mostOfAnyClearingNotOnlyTheBest() {
        State tie = NONE.owed(0, 1, 3).owed(0, 1, 3).owed(1, 0, 3);
        changesNothing(tie, "bestCode()", x -> x.bestCode(), 15);
        changesNothing(tie, "most(0)", x -> x.most(0), 3);
        State shorter = new State("shorter ring", 3, debt(0, 1, 1), debt(1, 2, 1), debt(2, 0, 1),
            debt(1, 0, 1));
        changesNothing(shorter, "bestCode()", x -> x.bestCode(), 64 + 16 + 4);
        changesNothing(shorter, "most(3)", x -> x.most(3), 1);
    }

    /** Promise 16: "-1 if debt is not good" */
    private static void mostOfADebtNotGood() {
        for (State state : STATES) {
            for (int bad : outside(state.debts.length)) {
                changesNothing(state, "most(" + bad + ")", x -> x.most(bad), -1);
            }
        }
    }

    /** Promise 17: "1 if there is a clearing that strikes something off, otherwise 0" */
    private static void possibleIfSomethingIsStruckOff() {
        State pair = NONE.owed(0, 1, 1).owed(1, 0, 1);
        changesNothing(NONE, "possible()", x -> x.possible(), 0);
        changesNothing(NONE.owed(0, 1, 3), "possible()", x -> x.possible(), 0);
        changesNothing(pair, "possible()", x -> x.possible(), 1);
        changesNothing(pair.changed(0, 0), "possible() with 0 there", x -> x.possible(), 0);
        changesNothing(pair.changed(1, 0), "possible() with 0 back", x -> x.possible(), 0);
        changesNothing(pair.takenOut(0), "possible() with 0 out", x -> x.possible(), 0);
        changesNothing(pair.takenOut(1), "possible() with 1 out", x -> x.possible(), 0);
        changesNothing(ONE_WAY, "possible()", x -> x.possible(), 0);
        changesNothing(ONE_OUT, "possible()", x -> x.possible(), 1);
        changesNothing(ONE_OUT.takenOut(0), "possible() with 0 and 3 out", x -> x.possible(), 0);
        changesNothing(FULL, "possible()", x -> x.possible(), 1);
        changesNothing(FULL.allOut(), "possible()", x -> x.possible(), 0);
        changesNothing(ALL_GO, "possible()", x -> x.possible(), 1);
        // Only the two last of a full list stand against each other.
        State last = ONE_WAY.paid(6).owed(1, 0, 1).amounts(0, 0, 0, 0, 0, 1, 1);
        changesNothing(last, "possible() by the last two", x -> x.possible(), 1);
    }

    /** Promise 18: "The least sum of amounts of any debts between the firms", of 0 to 21 */
    private static void leastFromNothingToAll() {
        changesNothing(NONE, "least()", x -> x.least(), 0);
        changesNothing(NONE.owed(0, 1, 1), "least()", x -> x.least(), 1);
        changesNothing(NONE.owed(1, 0, 1), "least()", x -> x.least(), 1);
        changesNothing(ONE_WAY, "least()", x -> x.least(), 21);
        changesNothing(ONE_WAY.amounts(0, 0, 0, 0, 0, 0, 0), "least()", x -> x.least(), 0);
        changesNothing(ALL_GO, "least()", x -> x.least(), 0);
        changesNothing(FULL, "least()", x -> x.least(), 3);
        changesNothing(RING, "least()", x -> x.least(), 2);
    }

    /** Promise 18: "(new ones, as many as needed) that would give every firm its balance" */
    private static void leastGivesEveryFirmItsBalance() {
        // New debts may run between firms that owe each other nothing now.
        State chain = new State("chain", 5, debt(0, 1, 3), debt(1, 2, 3), debt(2, 3, 3), debt(3, 4, 3));
        changesNothing(chain, "least()", x -> x.least(), 3);
        changesNothing(chain.owed(4, 0, 3), "least()", x -> x.least(), 0);
        // Balances that no single debt of 3 could give.
        State fan = new State("fan", 5, debt(0, 1, 3), debt(0, 2, 3), debt(0, 3, 3), debt(0, 4, 3),
            debt(0, 1, 3), debt(0, 2, 3), debt(0, 3, 3));
        changesNothing(fan, "least()", x -> x.least(), 21);
        State back = new State("fan back", 5, debt(1, 0, 3), debt(2, 0, 3), debt(3, 0, 3), debt(4, 0, 3),
            debt(1, 0, 3), debt(2, 0, 3), debt(3, 0, 3));
        changesNothing(back, "least()", x -> x.least(), 21);
        // Every firm: those that are out have their balances too.
        changesNothing(ONE_OUT, "least()", x -> x.least(), 3);
        changesNothing(ONE_OUT.allOut(), "least()", x -> x.least(), 3);
        for (int firm = 0; firm < 5; firm++) {
            changesNothing(FULL.takenOut(firm), "least() with " + firm + " out", x -> x.least(), 3);
        }
        ObligationNetting x = FULL.make();
        x.clear();
        due("least() after clear()", x.least(), 3);
    }
}

import java.util.function.ToIntFunction;

/** Each line of the document's head and of its 'Terms' that names a boundary, with a test of its own. */
public final class TermsBoundaryTest extends Checks {
    public static void main(String[] args) {
        call512StillAnswers();
        firmsAreGoodFromZero();
        debtsAreGoodIfThere();
        sevenDebtsAtMost();
        creditorIsAnotherFirm();
        amountsAreZeroToThree();
        noFirmIsOutAtFirst();
        balanceIsOwedToLessOwing();
        noMoreThanTheAmountIsStruckOff();
        nothingIsStruckOffWithAFirmOut();
        everyFirmIsEven();
        sumsOverSeveralDebtsAreEven();
        totalIsTheSum();
        debtZeroIsTheFirstDigit();
        codesHaveAsManyDigitsAsDebts();
        greaterTotalIsBetter();
        lesserCodeIsBetterOfEqualTotals();
        strikingNothingOffIsAClearing();
        noQuestionChangesAnything();
        testsAreMadeInTheOrderNamed();
        finish();
    }

    /** "An object is used for at most 512 calls after it has been made" */
    private static void call512StillAnswers() {
        at512("owe(0, 1, 1)", x -> x.owe(0, 1, 1), -4);
        at512("change(6, 3)", x -> x.change(6, 3), 1);
        at512("pay(0)", x -> x.pay(0), 6);
        at512("exclude(4, 1)", x -> x.exclude(4, 1), 0);
        at512("clear()", x -> x.clear(), 10);
        at512("carryOut(14677)", x -> x.carryOut(14677), 10);
        at512("debts()", x -> x.debts(), 7);
        at512("amount(5)", x -> x.amount(5), 3);
        at512("balance(1)", x -> x.balance(1), -2);
        at512("outstanding()", x -> x.outstanding(), 15);
        at512("best()", x -> x.best(), 10);
        at512("bestCode()", x -> x.bestCode(), 14677);
        at512("isClearing(14677)", x -> x.isClearing(14677), 1);
        at512("weight(2)", x -> x.weight(2), 6);
        at512("most(0)", x -> x.most(0), 3);
        at512("possible()", x -> x.possible(), 1);
        at512("least()", x -> x.least(), 3);
    }

    private static void at512(String call, ToIntFunction<ObligationNetting> made, int want) {
        ObligationNetting x = FULL.make();
        // 7 calls so far; 252 turns of the list, two calls each, bring it round to where it was.
        for (int turn = 0; turn < 252; turn++) {
            int[] debt = FULL.debts[turn % 7];
            due("turn " + turn + ": pay(0)", x.pay(0), 6);
            due("turn " + turn + ": owe", x.owe(debt[0], debt[1], debt[2]), 6);
        }
        due("call 512: " + call, made.applyAsInt(x), want);
    }

    /** "a firm is good if it is 0 .. n-1" */
    private static void firmsAreGoodFromZero() {
        for (int n = 2; n <= 5; n++) {
            State state = new State(n + " firms", n, debt(0, 1, 3), debt(1, 0, 2)).takenOut(n - 1);
            for (int firm = 0; firm < n; firm++) {
                int good = firm;
                int other = firm == 0 ? 1 : 0;
                int out = firm == n - 1 ? 1 : 0;
                changes(state, "owe(" + good + ", ..)", x -> x.owe(good, other, 1), 2,
                    state.owed(good, other, 1));
                changes(state, "owe(.., " + good + ")", x -> x.owe(other, good, 1), 2,
                    state.owed(other, good, 1));
                changes(state, "exclude(" + good + ", 1)", x -> x.exclude(good, 1), out,
                    state.takenOut(good));
                changesNothing(state, "balance(" + good + ")", x -> x.balance(good),
                    good == 0 ? -1 : good == 1 ? 1 : 0);
                changesNothing(state, "weight(" + good + ")", x -> x.weight(good),
                    good < 2 && state.firms > 2 ? 4 : 0);
            }
            for (int bad : outside(n)) {
                changesNothing(state, "owe(" + bad + ", 0, 1)", x -> x.owe(bad, 0, 1), -1);
                changesNothing(state, "owe(0, " + bad + ", 1)", x -> x.owe(0, bad, 1), -1);
                changesNothing(state, "exclude(" + bad + ", 1)", x -> x.exclude(bad, 1), -1);
                changesNothing(state, "exclude(" + bad + ", 0)", x -> x.exclude(bad, 0), -1);
                changesNothing(state, "balance(" + bad + ")", x -> x.balance(bad), -1000);
                changesNothing(state, "weight(" + bad + ")", x -> x.weight(bad), -1);
            }
        }
    }

    /** "a debt [is good] if there is such a debt" */
    private static void debtsAreGoodIfThere() {
        int[] mostOfFull = {3, 2, 1, 1, 1, 1, 1};
        for (int count = 0; count <= 7; count++) {
            State state = FULL.first(count);
            for (int debt = 0; debt < count; debt++) {
                int good = debt;
                int amount = FULL.debts[debt][2];
                changes(state, "change(" + good + ", 0)", x -> x.change(good, 0), amount,
                    state.changed(good, 0));
                changes(state, "pay(" + good + ")", x -> x.pay(good), count - 1, state.paid(good));
                changesNothing(state, "amount(" + good + ")", x -> x.amount(good), amount);
            }
            for (int bad : outside(count)) {
                changesNothing(state, "change(" + bad + ", 1)", x -> x.change(bad, 1), -1);
                changesNothing(state, "pay(" + bad + ")", x -> x.pay(bad), -1);
                changesNothing(state, "amount(" + bad + ")", x -> x.amount(bad), -1);
                changesNothing(state, "most(" + bad + ")", x -> x.most(bad), -1);
            }
        }
        for (int debt = 0; debt < 7; debt++) {
            int good = debt;
            changesNothing(FULL, "most(" + good + ")", x -> x.most(good), mostOfFull[good]);
        }
    }

    /** "a list of at most 7 DEBTS, numbered 0, 1, 2, .. in their order" */
    private static void sevenDebtsAtMost() {
        for (int n = 2; n <= 5; n++) {
            State state = new State(n + " firms", n);
            ObligationNetting x = state.make();
            for (int debt = 0; debt < 7; debt++) {
                int debtor = debt % 2;
                due(n + " firms: debts() before " + debt, x.debts(), debt);
                due(n + " firms: owe " + debt, x.owe(debtor, 1 - debtor, debt % 4), debt);
                state = state.owed(debtor, 1 - debtor, debt % 4);
            }
            due(n + " firms: an eighth debt", x.owe(0, 1, 1), -4);
            holds(n + " firms: after an eighth debt", x, state);
            due(n + " firms: pay(0)", x.pay(0), 6);
            due(n + " firms: a seventh debt again", x.owe(0, 1, 1), 6);
            due(n + " firms: an eighth debt again", x.owe(1, 0, 1), -4);
            holds(n + " firms: full again", x, state.paid(0).owed(0, 1, 1));
        }
    }

    /** "a CREDITOR (another firm)" */
    private static void creditorIsAnotherFirm() {
        State state = new State("5 firms", 5);
        for (int debtor = 0; debtor < 5; debtor++) {
            for (int creditor = 0; creditor < 5; creditor++) {
                int from = debtor;
                int to = creditor;
                String call = "owe(" + from + ", " + to + ", 2)";
                if (from == to) {
                    changesNothing(state, call, x -> x.owe(from, to, 2), -2);
                } else {
                    changes(state, call, x -> x.owe(from, to, 2), 0, state.owed(from, to, 2));
                }
            }
        }
    }

    /** "an AMOUNT 0 .. 3" */
    private static void amountsAreZeroToThree() {
        for (int amount = 0; amount <= 3; amount++) {
            int good = amount;
            changes(RING, "owe(0, 2, " + good + ")", x -> x.owe(0, 2, good), 3, RING.owed(0, 2, good));
            changes(RING, "change(1, " + good + ")", x -> x.change(1, good), 2, RING.changed(1, good));
        }
        for (int bad : outside(4)) {
            changesNothing(RING, "owe(0, 2, " + bad + ")", x -> x.owe(0, 2, bad), -3);
            changesNothing(RING, "change(1, " + bad + ")", x -> x.change(1, bad), -2);
        }
    }

    /** "A firm may be OUT; none is at first." */
    private static void noFirmIsOutAtFirst() {
        for (int n = 2; n <= 5; n++) {
            ObligationNetting x = new ObligationNetting(n);
            for (int firm = 0; firm < n; firm++) {
                due(n + " firms: exclude(" + firm + ", 1) at first", x.exclude(firm, 1), 0);
            }
            for (int firm = 0; firm < n; firm++) {
                due(n + " firms: exclude(" + firm + ", 0) then", x.exclude(firm, 0), 1);
            }
            // A ring through all firms clears only if every one is in.
            ObligationNetting y = new ObligationNetting(n);
            for (int firm = 0; firm < n; firm++) {
                y.owe(firm, (firm + 1) % n, 3);
            }
            due(n + " firms: best() of a ring", y.best(), 3 * n);
        }
    }

    /** "THE BALANCE of a firm is the sum of the amounts owed to it less the sum of those that it owes." */
    private static void balanceIsOwedToLessOwing() {
        ObligationNetting x = new ObligationNetting(3);
        balances("no debts", x, 0, 0, 0);
        for (int debt = 0; debt < 7; debt++) {
            x.owe(2, 0, 3);
        }
        balances("7 debts of 3", x, 21, 0, -21);
        for (int debt = 0; debt < 7; debt++) {
            x.change(debt, 0);
        }
        balances("7 debts of 0", x, 0, 0, 0);
        x.change(6, 1);
        balances("1 on the last debt", x, 1, 0, -1);
        ObligationNetting y = RING.make();
        balances("ring", y, -2, 1, 1);
        y.exclude(0, 1);
        balances("ring, a firm out", y, -2, 1, 1);
        y.exclude(1, 1);
        y.exclude(2, 1);
        balances("ring, all out", y, -2, 1, 1);
    }

    private static void balances(String when, ObligationNetting x, int... want) {
        for (int firm = 0; firm < want.length; firm++) {
            due(when + ": balance(" + firm + ")", x.balance(firm), want[firm]);
        }
    }

    /** "strikes an amount off every debt, from 0 to the debt's amount" */
    private static void noMoreThanTheAmountIsStruckOff() {
        for (int there = 0; there <= 3; there++) {
            for (int back = 0; back <= 3; back++) {
                State pair = new State("pair " + there + ", " + back, 2, debt(0, 1, there), debt(1, 0, back));
                int limit = Math.min(there, back);
                for (int struck = 0; struck <= 3; struck++) {
                    int code = 4 * struck + struck;
                    boolean good = struck <= limit;
                    changesNothing(pair, "isClearing(" + code + ")", x -> x.isClearing(code), good ? 1 : 0);
                    changes(pair, "carryOut(" + code + ")", x -> x.carryOut(code), good ? 2 * struck : -1,
                        good ? pair.amounts(there - struck, back - struck) : pair);
                }
                changesNothing(pair, "best()", x -> x.best(), 2 * limit);
                changesNothing(pair, "most(0)", x -> x.most(0), limit);
                changesNothing(pair, "most(1)", x -> x.most(1), limit);
            }
        }
    }

    /** "(0 for debts of which the debtor or the creditor is out)" */
    private static void nothingIsStruckOffWithAFirmOut() {
        // A pair between 0 and 1, a pair between 2 and 3; firm 4 has no debts.
        State pairs = new State("pairs", 5, debt(0, 1, 1), debt(1, 0, 1), debt(2, 3, 1), debt(3, 2, 1));
        for (int bits = 0; bits < 32; bits++) {
            State state = pairs;
            for (int firm = 0; firm < 5; firm++) {
                state = (bits >> firm & 1) == 1 ? state.takenOut(firm) : state;
            }
            int first = (bits & 3) == 0 ? 1 : 0;
            int second = (bits >> 2 & 3) == 0 ? 1 : 0;
            String out = "out " + bits + ": ";
            changesNothing(state, out + "isClearing(80)", x -> x.isClearing(80), first);
            changesNothing(state, out + "isClearing(5)", x -> x.isClearing(5), second);
            changesNothing(state, out + "isClearing(85)", x -> x.isClearing(85), first * second);
            changesNothing(state, out + "best()", x -> x.best(), 2 * first + 2 * second);
            changesNothing(state, out + "bestCode()", x -> x.bestCode(), 80 * first + 5 * second);
            changesNothing(state, out + "most(0)", x -> x.most(0), first);
            changesNothing(state, out + "most(1)", x -> x.most(1), first);
            changesNothing(state, out + "most(2)", x -> x.most(2), second);
            changesNothing(state, out + "most(3)", x -> x.most(3), second);
            changesNothing(state, out + "possible()", x -> x.possible(), first | second);
            changes(state, out + "clear()", x -> x.clear(), 2 * first + 2 * second,
                state.amounts(1 - first, 1 - first, 1 - second, 1 - second));
        }
    }

    /** "for every firm the sum .. off the debts owed to it is the sum .. off the debts that it owes" */
    private static void everyFirmIsEven() {
        for (int n = 2; n <= 5; n++) {
            ObligationNetting x = new ObligationNetting(n);
            int ones = 0;
            for (int firm = 0; firm < n; firm++) {
                x.owe(firm, (firm + 1) % n, 3);
                ones = 4 * ones + 1;
            }
            for (int times = 0; times <= 3; times++) {
                due("ring of " + n + ": isClearing, all " + times, x.isClearing(times * ones), 1);
            }
            for (int digit = 1; digit < 1 << (2 * n); digit *= 4) {
                due("ring of " + n + ": one digit less", x.isClearing(2 * ones - digit), 0);
                due("ring of " + n + ": one digit more", x.isClearing(2 * ones + digit), 0);
                due("ring of " + n + ": one digit alone", x.isClearing(digit), 0);
            }
        }
        // A chain is even in its middle but not at its ends.
        ObligationNetting chain = new ObligationNetting(3);
        chain.owe(0, 1, 1);
        chain.owe(1, 2, 1);
        due("chain: isClearing(5)", chain.isClearing(5), 0);
        due("chain: possible()", chain.possible(), 0);
    }

    /** "the SUM of what is struck off the debts owed to it" */
    private static void sumsOverSeveralDebtsAreEven() {
        State state = new State("3 against 1 and 2", 2, debt(0, 1, 3), debt(1, 0, 1), debt(1, 0, 2));
        changesNothing(state, "isClearing(3, 1, 2)", x -> x.isClearing(48 + 4 + 2), 1);
        changesNothing(state, "isClearing(3, 1, 1)", x -> x.isClearing(48 + 4 + 1), 0);
        changesNothing(state, "isClearing(2, 1, 2)", x -> x.isClearing(32 + 4 + 2), 0);
        changesNothing(state, "isClearing(1, 1, 0)", x -> x.isClearing(16 + 4), 1);
        changesNothing(state, "isClearing(1, 0, 1)", x -> x.isClearing(16 + 1), 1);
        changesNothing(state, "isClearing(1, 1, 1)", x -> x.isClearing(16 + 4 + 1), 0);
        changes(state, "clear()", x -> x.clear(), 6, state.amounts(0, 0, 0));
    }

    /** "Its TOTAL is the sum of what is struck off." */
    private static void totalIsTheSum() {
        changes(NONE, "carryOut(0)", x -> x.carryOut(0), 0, NONE);
        changes(ALL_GO, "carryOut(0)", x -> x.carryOut(0), 0, ALL_GO);
        changes(ALL_GO, "carryOut of the ring by 1", x -> x.carryOut(21), 3,
            ALL_GO.amounts(3, 3, 3, 3, 2, 2, 2));
        changes(ALL_GO, "carryOut of 1 off all", x -> x.carryOut(5461), 7,
            ALL_GO.amounts(2, 2, 2, 2, 2, 2, 2));
        changes(ALL_GO, "carryOut of 3 off all", x -> x.carryOut(16383), 21,
            ALL_GO.amounts(0, 0, 0, 0, 0, 0, 0));
        changesNothing(ALL_GO, "best()", x -> x.best(), 21);
    }

    /** "the number whose digits in base 4 are what is struck off the debts .., debt 0 the first digit" */
    private static void debtZeroIsTheFirstDigit() {
        for (int count = 2; count <= 7; count++) {
            for (int there = 0; there < count; there++) {
                for (int back = there + 1; back < count; back++) {
                    onlyTheseTwoStrike(count, there, back);
                }
            }
        }
        // One more debt behind shifts every digit, as does its going away.
        ObligationNetting x = RING.make();
        due("ring: bestCode()", x.bestCode(), 21);
        x.owe(0, 1, 0);
        due("ring and a debt: bestCode()", x.bestCode(), 84);
        due("ring and a debt: isClearing(21)", x.isClearing(21), 0);
        x.pay(3);
        due("ring again: bestCode()", x.bestCode(), 21);
        due("ring again: isClearing(84)", x.isClearing(84), 0);
    }

    private static void onlyTheseTwoStrike(int count, int there, int back) {
        ObligationNetting x = new ObligationNetting(3);
        for (int debt = 0; debt < count; debt++) {
            if (debt == back) {
                x.owe(1, 0, 3);
            } else {
                x.owe(0, 1, debt == there ? 3 : 0);
            }
        }
        int ones = 1 << (2 * (count - 1 - there)) | 1 << (2 * (count - 1 - back));
        String when = count + " debts, " + there + " against " + back + ": ";
        for (int struck = 0; struck <= 3; struck++) {
            due(when + "isClearing, " + struck + " off", x.isClearing(struck * ones), 1);
        }
        due(when + "bestCode()", x.bestCode(), 3 * ones);
        due(when + "carryOut", x.carryOut(2 * ones), 4);
        due(when + "amount of the one", x.amount(there), 1);
        due(when + "amount of the other", x.amount(back), 1);
    }

    /** A code has one digit for each debt: there is none below 0 and none of 4^debts or more. */
    private static void codesHaveAsManyDigitsAsDebts() {
        for (int count = 0; count <= 7; count++) {
            State state = new State(count + " debts", 2);
            for (int debt = 0; debt < count; debt++) {
                state = state.owed(debt % 2, 1 - debt % 2, 3);
            }
            int end = 1 << (2 * count);
            // All debts by 3; of an odd number the last has none to stand against it.
            int good = count % 2 == 0 ? end - 1 : end - 4;
            changesNothing(state, "isClearing(" + good + ")", x -> x.isClearing(good), 1);
            for (int bad : outside(end)) {
                noCode(state, bad);
            }
            for (int far = end; far > 0; far *= 4) {
                noCode(state, far);
                noCode(state, far + good);
                noCode(state, -far);
                noCode(state, good - far);
            }
            noCode(state, LOWEST + good);
        }
    }

    private static void noCode(State state, int code) {
        changesNothing(state, "isClearing(" + code + ")", x -> x.isClearing(code), 0);
        changesNothing(state, "carryOut(" + code + ")", x -> x.carryOut(code), -1);
    }

    /** "the BETTER one is that of greater total" */
    private static void greaterTotalIsBetter() {
        State lesserFirst = new State("greater total, greater code", 3,
            debt(1, 2, 1), debt(2, 0, 1), debt(1, 0, 1), debt(0, 1, 1));
        changesNothing(lesserFirst, "isClearing(5)", x -> x.isClearing(5), 1);
        changesNothing(lesserFirst, "best()", x -> x.best(), 3);
        changesNothing(lesserFirst, "bestCode()", x -> x.bestCode(), 64 + 16 + 1);
        State lesserLast = new State("greater total, lesser code", 3,
            debt(1, 0, 1), debt(1, 2, 1), debt(2, 0, 1), debt(0, 1, 1));
        changesNothing(lesserLast, "isClearing(65)", x -> x.isClearing(65), 1);
        changesNothing(lesserLast, "best()", x -> x.best(), 3);
        changesNothing(lesserLast, "bestCode()", x -> x.bestCode(), 16 + 4 + 1);
        // By 1 only: the ring of three against that of two.
        changes(lesserLast, "clear()", x -> x.clear(), 3, lesserLast.amounts(1, 0, 0, 0));
    }

    /** "or, with the same total, that with the lesser code" */
    private static void lesserCodeIsBetterOfEqualTotals() {
        State six = new State("six against the last", 2, debt(0, 1, 3), debt(0, 1, 3), debt(0, 1, 3),
            debt(0, 1, 3), debt(0, 1, 3), debt(0, 1, 3), debt(1, 0, 3));
        changesNothing(six, "bestCode()", x -> x.bestCode(), 3 * 4 + 3);
        changes(six, "clear()", x -> x.clear(), 6, six.amounts(3, 3, 3, 3, 3, 0, 0));
        State rest = new State("six against the first", 2, debt(1, 0, 3), debt(0, 1, 3), debt(0, 1, 3),
            debt(0, 1, 3), debt(0, 1, 3), debt(0, 1, 1), debt(0, 1, 1));
        changesNothing(rest, "bestCode()", x -> x.bestCode(), 3 * 4096 + 1 * 16 + 1 * 4 + 1);
        changes(rest, "clear()", x -> x.clear(), 6, rest.amounts(0, 3, 3, 3, 2, 0, 0));
        State rings = new State("two rings by way of debt 0", 4, debt(0, 1, 1), debt(1, 2, 1),
            debt(2, 0, 1), debt(1, 3, 1), debt(3, 0, 1));
        changesNothing(rings, "bestCode()", x -> x.bestCode(), 256 + 4 + 1);
        changesNothing(rings, "isClearing(336)", x -> x.isClearing(256 + 64 + 16), 1);
        changesNothing(rings.takenOut(3), "bestCode(), 3 out", x -> x.bestCode(), 256 + 64 + 16);
    }

    /** "(The clearing that strikes nothing off is one.)" */
    private static void strikingNothingOffIsAClearing() {
        State oneWay = new State("one way", 2, debt(0, 1, 3));
        State zeros = new State("amounts of 0", 2, debt(0, 1, 0), debt(1, 0, 0));
        State[] onlyThat = {NONE, NONE.allOut(), oneWay, oneWay.allOut(), zeros, RING.allOut(),
            ONE_OUT.allOut(), FULL.allOut()};
        for (State state : onlyThat) {
            nothingOff(state);
            changesNothing(state, "best()", x -> x.best(), 0);
            changesNothing(state, "bestCode()", x -> x.bestCode(), 0);
            changesNothing(state, "possible()", x -> x.possible(), 0);
            changesNothing(state, "clear()", x -> x.clear(), 0);
        }
        for (State state : STATES) {
            nothingOff(state);
        }
    }

    private static void nothingOff(State state) {
        changesNothing(state, "isClearing(0)", x -> x.isClearing(0), 1);
        changesNothing(state, "carryOut(0)", x -> x.carryOut(0), 0);
    }

    /** "No question changes anything." */
    private static void noQuestionChangesAnything() {
        for (State state : STATES) {
            State[] both = {state, state.allOut()};
            for (State one : both) {
                unchangedBy(one, "debts()", x -> x.debts());
                unchangedBy(one, "outstanding()", x -> x.outstanding());
                unchangedBy(one, "best()", x -> x.best());
                unchangedBy(one, "bestCode()", x -> x.bestCode());
                unchangedBy(one, "possible()", x -> x.possible());
                unchangedBy(one, "least()", x -> x.least());
                for (int number = -1; number <= 7; number++) {
                    int asked = number;
                    unchangedBy(one, "amount(" + asked + ")", x -> x.amount(asked));
                    unchangedBy(one, "balance(" + asked + ")", x -> x.balance(asked));
                    unchangedBy(one, "weight(" + asked + ")", x -> x.weight(asked));
                    unchangedBy(one, "most(" + asked + ")", x -> x.most(asked));
                }
                int[] codes = {LOWEST, -1, 0, 1, 5, 21, 14677, 16383, 16384, HIGHEST};
                for (int code : codes) {
                    unchangedBy(one, "isClearing(" + code + ")", x -> x.isClearing(code));
                }
            }
        }
    }

    /** Asked three times: the same answer each time, and nothing has changed. */
    private static void unchangedBy(State state, String call, ToIntFunction<ObligationNetting> question) {
        ObligationNetting x = state.make();
        int answer = question.applyAsInt(x);
        due(state.name + ": second " + call, question.applyAsInt(x), answer);
        due(state.name + ": third " + call, question.applyAsInt(x), answer);
        holds(state.name + ": after " + call, x, state);
    }

    /** "In every method the tests are made in the order named" */
    private static void testsAreMadeInTheOrderNamed() {
        for (State state : STATES) {
            int n = state.firms;
            int full = state.debts.length == 7 ? -4 : state.debts.length;
            int[] badAmounts = {LOWEST, -1, 4, HIGHEST};
            int[] badFirms = {LOWEST, -1, n, HIGHEST};
            for (int bad : badFirms) {
                changesNothing(state, "owe: firms alike", x -> x.owe(bad, bad, 1), -1);
                for (int amount : badAmounts) {
                    changesNothing(state, "owe: all wrong", x -> x.owe(bad, bad, amount), -1);
                    changesNothing(state, "owe: debtor, amount", x -> x.owe(bad, 0, amount), -1);
                    changesNothing(state, "owe: creditor, amount", x -> x.owe(0, bad, amount), -1);
                }
            }
            for (int amount : badAmounts) {
                changesNothing(state, "owe: same, amount", x -> x.owe(1, 1, amount), -2);
                changesNothing(state, "owe: amount", x -> x.owe(0, 1, amount), -3);
                changesNothing(state, "change: both, above", x -> x.change(state.debts.length, amount), -1);
                changesNothing(state, "change: both, below", x -> x.change(-1, amount), -1);
                if (state.debts.length > 0) {
                    changesNothing(state, "change: amount", x -> x.change(0, amount), -2);
                }
            }
            changesNothing(state, "owe: same", x -> x.owe(1, 1, 1), -2);
            changes(state, "owe", x -> x.owe(0, 1, 1), full, full < 0 ? state : state.owed(0, 1, 1));
        }
    }
}

/** Each promise by itself, with answers worked out by hand from the document. */
public final class PromiseTest {
    private static final int LOWEST = Integer.MIN_VALUE;
    private static final int HIGHEST = Integer.MAX_VALUE;

    private static int wrong = 0;

    private static void due(String call, int got, int want) {
        if (got != want) {
            wrong++;
            System.out.println(call + " answered " + got + ", due is " + want);
        }
    }

    public static void main(String[] args) {
        newObject();
        owe();
        change();
        pay();
        exclude();
        clear();
        carryOut();
        debtsAmountAndOutstanding();
        balance();
        bestAndBestCode();
        lesserCodeWins();
        isClearing();
        fullList();
        weight();
        most();
        possible();
        least();
        readmeExample();
        System.out.println(wrong == 0 ? "all answers are as due" : wrong + " answers are not as due");
        if (wrong != 0) {
            System.exit(1);
        }
    }

    /** A ring 0 -> 1 -> 2 -> 0 with amounts 3, 2, 1 among three firms. */
    private static ObligationNetting ring() {
        ObligationNetting x = new ObligationNetting(3);
        x.owe(0, 1, 3);
        x.owe(1, 2, 2);
        x.owe(2, 0, 1);
        return x;
    }

    private static void amountsDue(String when, ObligationNetting x, int... want) {
        due(when + ": debts()", x.debts(), want.length);
        for (int debt = 0; debt < want.length; debt++) {
            due(when + ": amount(" + debt + ")", x.amount(debt), want[debt]);
        }
        due(when + ": amount past the end", x.amount(want.length), -1);
    }

    private static void firmsDue(int given, int want) {
        String made = "new(" + given + "): ";
        ObligationNetting x = new ObligationNetting(given);
        due(made + "balance(last)", x.balance(want - 1), 0);
        due(made + "balance(past)", x.balance(want), -1000);
        due(made + "debts()", x.debts(), 0);
        due(made + "outstanding()", x.outstanding(), 0);
        for (int firm = 0; firm < want; firm++) {
            due(made + "exclude(" + firm + ", 0)", x.exclude(firm, 0), 0);
        }
        due(made + "exclude(past, 0)", x.exclude(want, 0), -1);
        due(made + "owe(0, past, 1)", x.owe(0, want, 1), -1);
        due(made + "owe(0, last, 1)", x.owe(0, want - 1, 1), 0);
    }

    private static void newObject() {
        firmsDue(LOWEST, 2);
        firmsDue(-1, 2);
        firmsDue(0, 2);
        firmsDue(1, 2);
        firmsDue(2, 2);
        firmsDue(3, 3);
        firmsDue(4, 4);
        firmsDue(5, 5);
        firmsDue(6, 5);
        firmsDue(HIGHEST, 5);
    }

    private static void owe() {
        ObligationNetting x = new ObligationNetting(3);
        due("owe(-1, -1, 9)", x.owe(-1, -1, 9), -1);
        due("owe(-1, 0, 1)", x.owe(-1, 0, 1), -1);
        due("owe(0, -1, 1)", x.owe(0, -1, 1), -1);
        due("owe(3, 0, 1)", x.owe(3, 0, 1), -1);
        due("owe(0, 3, 1)", x.owe(0, 3, 1), -1);
        due("owe(LOWEST, HIGHEST, 1)", x.owe(LOWEST, HIGHEST, 1), -1);
        due("owe(3, 3, 1)", x.owe(3, 3, 1), -1);
        due("owe(2, 2, 4)", x.owe(2, 2, 4), -2);
        due("owe(1, 1, 1)", x.owe(1, 1, 1), -2);
        due("owe(0, 1, -1)", x.owe(0, 1, -1), -3);
        due("owe(0, 1, 4)", x.owe(0, 1, 4), -3);
        due("owe(0, 1, LOWEST)", x.owe(0, 1, LOWEST), -3);
        due("owe(0, 1, HIGHEST)", x.owe(0, 1, HIGHEST), -3);
        amountsDue("after refused owes", x);
        for (int debt = 0; debt < 7; debt++) {
            due("owe number " + debt, x.owe(debt % 2, 2, debt % 4), debt);
        }
        due("full: owe(0, 3, 1)", x.owe(0, 3, 1), -1);
        due("full: owe(0, 0, 1)", x.owe(0, 0, 1), -2);
        due("full: owe(0, 1, 4)", x.owe(0, 1, 4), -3);
        due("full: owe(0, 1, 3)", x.owe(0, 1, 3), -4);
        amountsDue("full", x, 0, 1, 2, 3, 0, 1, 2);
        due("full: balance(0)", x.balance(0), -4);
        due("full: balance(1)", x.balance(1), -5);
        due("full: balance(2)", x.balance(2), 9);
        due("full: pay(6)", x.pay(6), 6);
        due("room again: owe(0, 1, 3)", x.owe(0, 1, 3), 6);
        x.exclude(0, 1);
        due("pay(6) of an out firm", x.pay(6), 6);
        due("owe by an out firm", x.owe(0, 1, 2), 6);
    }

    private static void change() {
        ObligationNetting x = ring();
        due("change(-1, 9)", x.change(-1, 9), -1);
        due("change(3, 1)", x.change(3, 1), -1);
        due("change(7, 1)", x.change(7, 1), -1);
        due("change(HIGHEST, 1)", x.change(HIGHEST, 1), -1);
        due("change(LOWEST, 1)", x.change(LOWEST, 1), -1);
        due("change(0, -1)", x.change(0, -1), -2);
        due("change(0, 4)", x.change(0, 4), -2);
        amountsDue("after refused changes", x, 3, 2, 1);
        due("change(0, 0)", x.change(0, 0), 3);
        due("change(0, 1)", x.change(0, 1), 0);
        due("change(2, 3)", x.change(2, 3), 1);
        due("change(2, 3) again", x.change(2, 3), 3);
        amountsDue("after changes", x, 1, 2, 3);
    }

    private static void pay() {
        ObligationNetting x = ring();
        due("pay(-1)", x.pay(-1), -1);
        due("pay(3)", x.pay(3), -1);
        due("pay(HIGHEST)", x.pay(HIGHEST), -1);
        due("pay(LOWEST)", x.pay(LOWEST), -1);
        amountsDue("after refused pays", x, 3, 2, 1);
        due("pay(0)", x.pay(0), 2);
        amountsDue("after pay(0)", x, 2, 1);
        due("after pay(0): balance(0)", x.balance(0), 1);
        due("after pay(0): balance(1)", x.balance(1), -2);
        due("after pay(0): balance(2)", x.balance(2), 1);
        due("pay(1)", x.pay(1), 1);
        amountsDue("after pay(1)", x, 2);
        due("next number", x.owe(2, 1, 3), 1);
        due("bestCode()", x.bestCode(), 2 * 4 + 2);
        due("pay(0)", x.pay(0), 1);
        due("pay(0) of the last", x.pay(0), 0);
        due("pay(0) of none", x.pay(0), -1);
        due("best() of none", x.best(), 0);
    }

    private static void exclude() {
        ObligationNetting x = ring();
        due("exclude(-1, 1)", x.exclude(-1, 1), -1);
        due("exclude(3, 1)", x.exclude(3, 1), -1);
        due("exclude(LOWEST, 1)", x.exclude(LOWEST, 1), -1);
        due("exclude(HIGHEST, 1)", x.exclude(HIGHEST, 1), -1);
        due("best() after refused excludes", x.best(), 3);
        due("exclude(1, 0)", x.exclude(1, 0), 0);
        due("exclude(1, -7)", x.exclude(1, -7), 0);
        due("best() without 1", x.best(), 0);
        due("exclude(1, 2)", x.exclude(1, 2), 1);
        due("exclude(2, LOWEST)", x.exclude(2, LOWEST), 0);
        due("exclude(1, 0) back", x.exclude(1, 0), 1);
        due("best() still without 2", x.best(), 0);
        due("exclude(1, 0) twice", x.exclude(1, 0), 0);
        due("exclude(2, 0) back", x.exclude(2, 0), 1);
        due("best() with all", x.best(), 3);
        amountsDue("after excludes", x, 3, 2, 1);
    }

    private static void clear() {
        ObligationNetting x = ring();
        due("clear()", x.clear(), 3);
        amountsDue("after clear()", x, 2, 1, 0);
        due("clear() again", x.clear(), 0);
        amountsDue("after the second clear()", x, 2, 1, 0);
        ObligationNetting y = ring();
        y.exclude(0, 1);
        due("clear() without 0", y.clear(), 0);
        amountsDue("after clear() without 0", y, 3, 2, 1);
        due("clear() of nothing", new ObligationNetting(2).clear(), 0);
        // Of the equal debts 0 and 1 the lesser code strikes the later one.
        ObligationNetting z = new ObligationNetting(2);
        z.owe(0, 1, 2);
        z.owe(0, 1, 2);
        z.owe(1, 0, 3);
        due("clear() of a tie", z.clear(), 6);
        amountsDue("after clear() of a tie", z, 1, 0, 0);
        due("balance(0) kept", z.balance(0), -1);
    }

    private static void carryOut() {
        ObligationNetting x = new ObligationNetting(2);
        x.owe(0, 1, 3);
        x.owe(1, 0, 2);
        due("carryOut(-1)", x.carryOut(-1), -1);
        due("carryOut(LOWEST)", x.carryOut(LOWEST), -1);
        due("carryOut(HIGHEST)", x.carryOut(HIGHEST), -1);
        due("carryOut(16 + 5)", x.carryOut(16 + 5), -1);
        due("carryOut(15) over the amount", x.carryOut(15), -1);
        due("carryOut(4) uneven", x.carryOut(4), -1);
        amountsDue("after refused carryOuts", x, 3, 2);
        due("carryOut(0)", x.carryOut(0), 0);
        amountsDue("after carryOut(0)", x, 3, 2);
        due("carryOut(5)", x.carryOut(5), 2);
        amountsDue("after carryOut(5)", x, 2, 1);
        x.exclude(0, 1);
        due("carryOut(5) of an out firm", x.carryOut(5), -1);
        due("carryOut(0) of an out firm", x.carryOut(0), 0);
        amountsDue("after carryOut of an out firm", x, 2, 1);
        x.exclude(0, 0);
        due("carryOut(5) again", x.carryOut(5), 2);
        due("carryOut(5) no more", x.carryOut(5), -1);
        amountsDue("at the end", x, 1, 0);
    }

    private static void debtsAmountAndOutstanding() {
        ObligationNetting x = new ObligationNetting(2);
        amountsDue("new", x);
        due("outstanding() of none", x.outstanding(), 0);
        for (int debt = 0; debt < 7; debt++) {
            x.owe(0, 1, 3);
            due("debts()", x.debts(), debt + 1);
            due("outstanding()", x.outstanding(), 3 * (debt + 1));
        }
        x.exclude(0, 1);
        due("outstanding() counts firms that are out", x.outstanding(), 21);
        x.change(3, 0);
        due("debts() counts debts of 0", x.debts(), 7);
        due("outstanding()", x.outstanding(), 18);
        due("amount(3)", x.amount(3), 0);
        due("amount(-1)", x.amount(-1), -1);
        due("amount(7)", x.amount(7), -1);
        due("amount(LOWEST)", x.amount(LOWEST), -1);
        due("amount(HIGHEST)", x.amount(HIGHEST), -1);
        x.pay(0);
        due("amount(6) paid away", x.amount(6), -1);
    }

    private static void balance() {
        ObligationNetting x = ring();
        due("balance(0)", x.balance(0), -2);
        due("balance(1)", x.balance(1), 1);
        due("balance(2)", x.balance(2), 1);
        due("balance(-1)", x.balance(-1), -1000);
        due("balance(3)", x.balance(3), -1000);
        due("balance(LOWEST)", x.balance(LOWEST), -1000);
        due("balance(HIGHEST)", x.balance(HIGHEST), -1000);
        x.exclude(0, 1);
        due("balance(0) while out", x.balance(0), -2);
        due("balance(1) while 0 is out", x.balance(1), 1);
    }

    private static void bestAndBestCode() {
        ObligationNetting x = ring();
        due("ring: best()", x.best(), 3);
        due("ring: bestCode()", x.bestCode(), 16 + 4 + 1);
        x.change(2, 3);
        due("best()", x.best(), 6);
        due("bestCode()", x.bestCode(), 2 * (16 + 4 + 1));
        amountsDue("questions change nothing", x, 3, 2, 3);
        // A two-firm ring beside it: only one of the two can use debt 0 to the full.
        x.owe(1, 0, 3);
        due("with 1 -> 0: best()", x.best(), 8);
        due("with 1 -> 0: bestCode()", x.bestCode(), 3 * 64 + 2 * 16 + 2 * 4 + 1);
        x.exclude(2, 1);
        due("without 2: best()", x.best(), 6);
        due("without 2: bestCode()", x.bestCode(), 3 * 64 + 3);
    }

    private static void lesserCodeWins() {
        ObligationNetting x = new ObligationNetting(2);
        x.owe(0, 1, 1);
        x.owe(0, 1, 1);
        x.owe(1, 0, 1);
        due("tie: best()", x.best(), 2);
        due("tie: bestCode()", x.bestCode(), 4 + 1);
        due("tie: the other is a clearing too", x.isClearing(16 + 1), 1);
        // The greater total wins over the lesser code.
        ObligationNetting y = new ObligationNetting(3);
        y.owe(0, 1, 1);
        y.owe(1, 2, 1);
        y.owe(2, 0, 1);
        y.owe(1, 0, 1);
        due("long ring: best()", y.best(), 3);
        due("long ring: bestCode()", y.bestCode(), 64 + 16 + 4);
    }

    private static void isClearing() {
        ObligationNetting x = new ObligationNetting(3);
        due("no debts: isClearing(0)", x.isClearing(0), 1);
        due("no debts: isClearing(1)", x.isClearing(1), 0);
        x.owe(0, 1, 3);
        x.owe(1, 0, 2);
        x.owe(1, 2, 1);
        for (int code = -70; code < 300; code++) {
            boolean clearing = code == 0 || code == 16 + 4 || code == 2 * (16 + 4);
            due("isClearing(" + code + ")", x.isClearing(code), clearing ? 1 : 0);
        }
        due("isClearing(LOWEST)", x.isClearing(LOWEST), 0);
        due("isClearing(LOWEST + 20)", x.isClearing(LOWEST + 20), 0);
        due("isClearing(HIGHEST)", x.isClearing(HIGHEST), 0);
        due("isClearing(20 + 2^30)", x.isClearing(20 + (1 << 30)), 0);
        x.exclude(2, 1);
        due("without 2: isClearing(20)", x.isClearing(20), 1);
        x.exclude(1, 1);
        due("without 1: isClearing(20)", x.isClearing(20), 0);
        due("without 1: isClearing(0)", x.isClearing(0), 1);
    }

    private static void fullList() {
        ObligationNetting x = new ObligationNetting(5);
        x.owe(0, 1, 3);
        x.owe(1, 0, 3);
        x.owe(0, 1, 3);
        x.owe(1, 0, 3);
        x.owe(2, 3, 3);
        x.owe(3, 4, 3);
        x.owe(4, 2, 3);
        due("full: best()", x.best(), 21);
        due("full: bestCode()", x.bestCode(), 16383);
        due("full: isClearing(16383)", x.isClearing(16383), 1);
        due("full: isClearing(16384)", x.isClearing(16384), 0);
        due("full: isClearing(21)", x.isClearing(21), 1);
        due("full: carryOut(4096 + 1024)", x.carryOut(4096 + 1024), 2);
        amountsDue("full", x, 2, 2, 3, 3, 3, 3, 3);
        due("full: clear()", x.clear(), 19);
        due("full: outstanding()", x.outstanding(), 0);
    }

    private static void weight() {
        ObligationNetting x = new ObligationNetting(5);
        x.owe(0, 1, 3);
        x.owe(1, 0, 3);
        x.owe(1, 2, 2);
        x.owe(2, 0, 2);
        // Best: 3 off debt 0, 1 back directly, 2 by way of firm 2: total 8.
        due("best()", x.best(), 8);
        due("weight(0)", x.weight(0), 8);
        due("weight(1)", x.weight(1), 8);
        due("weight(2)", x.weight(2), 2);
        due("weight(3)", x.weight(3), 0);
        due("weight(4)", x.weight(4), 0);
        due("weight(-1)", x.weight(-1), -1);
        due("weight(5)", x.weight(5), -1);
        due("weight(LOWEST)", x.weight(LOWEST), -1);
        due("weight(HIGHEST)", x.weight(HIGHEST), -1);
        due("best() is not changed", x.best(), 8);
        due("exclude(2, 0): weight took nobody out", x.exclude(2, 0), 0);
        x.exclude(2, 1);
        due("weight(2) while out", x.weight(2), 0);
        due("weight(0) while 2 is out", x.weight(0), 6);
        due("exclude(2, 0): weight took nobody in", x.exclude(2, 0), 1);
    }

    private static void most() {
        ObligationNetting x = new ObligationNetting(3);
        x.owe(0, 1, 3);
        x.owe(1, 0, 2);
        x.owe(1, 2, 2);
        x.owe(2, 0, 1);
        x.owe(0, 2, 0);
        due("most(0)", x.most(0), 3);
        due("most(1)", x.most(1), 2);
        due("most(2)", x.most(2), 1);
        due("most(3)", x.most(3), 1);
        due("most(4)", x.most(4), 0);
        due("most(5)", x.most(5), -1);
        due("most(-1)", x.most(-1), -1);
        due("most(LOWEST)", x.most(LOWEST), -1);
        due("most(HIGHEST)", x.most(HIGHEST), -1);
        x.exclude(2, 1);
        due("without 2: most(0)", x.most(0), 2);
        due("without 2: most(2)", x.most(2), 0);
        // A clearing that is not the best one may strike more off a debt.
        ObligationNetting y = new ObligationNetting(3);
        y.owe(0, 1, 1);
        y.owe(1, 2, 1);
        y.owe(2, 0, 1);
        y.owe(1, 0, 1);
        due("bestCode() strikes nothing off debt 3", y.bestCode() % 4, 0);
        due("most(3) of another clearing", y.most(3), 1);
        ObligationNetting z = new ObligationNetting(2);
        z.owe(0, 1, 3);
        z.owe(1, 0, 3);
        due("most(0) by the greatest code", z.most(0), 3);
        due("most(0) of none", new ObligationNetting(2).most(0), -1);
    }

    private static void possible() {
        ObligationNetting x = new ObligationNetting(3);
        due("none: possible()", x.possible(), 0);
        x.owe(0, 1, 3);
        due("one way: possible()", x.possible(), 0);
        x.owe(1, 2, 3);
        x.owe(2, 0, 0);
        due("ring with 0: possible()", x.possible(), 0);
        x.change(2, 1);
        due("ring: possible()", x.possible(), 1);
        x.exclude(1, 1);
        due("ring without 1: possible()", x.possible(), 0);
        x.exclude(1, 0);
        x.clear();
        due("cleared: possible()", x.possible(), 0);
        x.owe(1, 0, 1);
        due("1 off each of two: possible()", x.possible(), 1);
    }

    private static void least() {
        ObligationNetting x = ring();
        due("least()", x.least(), 2);
        x.exclude(0, 1);
        due("least() counts firms that are out", x.least(), 2);
        x.exclude(1, 1);
        due("least() counts firms that are owed and out", x.least(), 2);
        x.change(2, 3);
        due("least() with balances 0, 1, -1", x.least(), 1);
        ObligationNetting y = new ObligationNetting(5);
        due("least() of none", y.least(), 0);
        for (int debt = 0; debt < 7; debt++) {
            y.owe(0, 1 + debt % 4, 3);
        }
        due("least() above every amount", y.least(), 21);
        // A chain comes down to one debt from its first firm to its last.
        ObligationNetting z = new ObligationNetting(5);
        z.owe(0, 1, 2);
        z.owe(1, 2, 2);
        z.owe(2, 3, 2);
        z.owe(3, 4, 2);
        due("least() of a chain", z.least(), 2);
        due("best() of a chain", z.best(), 0);
        z.owe(4, 0, 2);
        due("least() of a ring", z.least(), 0);
        z.owe(1, 0, 3);
        due("least() with firm 0 owed", z.least(), 3);
    }

    /** What README.md tells its reader. */
    private static void readmeExample() {
        ObligationNetting x = new ObligationNetting(3);
        due("README: owe(0, 1, 3)", x.owe(0, 1, 3), 0);
        due("README: owe(1, 2, 2)", x.owe(1, 2, 2), 1);
        due("README: owe(2, 0, 1)", x.owe(2, 0, 1), 2);
        due("README: balance(0)", x.balance(0), -2);
        due("README: best()", x.best(), 3);
        due("README: bestCode()", x.bestCode(), 21);
        due("README: weight(1)", x.weight(1), 3);
        due("README: clear()", x.clear(), 3);
        amountsDue("README: after clear()", x, 2, 1, 0);
        due("README: balance(0) then", x.balance(0), -2);
        due("README: least()", x.least(), 2);
    }
}

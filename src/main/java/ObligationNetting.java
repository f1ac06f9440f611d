/** Clearing of mutual debts: what can be struck off without anybody's balance changing. */
public final class ObligationNetting {
    private static final int MIN_FIRMS = 2;
    private static final int MAX_FIRMS = 5;
    private static final int MAX_DEBTS = 7;
    private static final int MAX_AMOUNT = 3;
    private static final int BITS_PER_DIGIT = 2;
    private static final int DIGIT_MASK = 3;
    private static final int NO_FIRM = -1;
    private static final int NO_BALANCE = -1000;

    private final int firmCount;
    private int debtCount = 0;
    private final int[] debtors = new int[MAX_DEBTS];
    private final int[] creditors = new int[MAX_DEBTS];
    private final int[] amounts = new int[MAX_DEBTS];
    private final boolean[] out = new boolean[MAX_FIRMS];

    // Only for use within one look at a code: methods may make no arrays of their own.
    private final int[] gains = new int[MAX_FIRMS];

    public ObligationNetting(int firms) {
        firmCount = firms < MIN_FIRMS ? MIN_FIRMS : firms > MAX_FIRMS ? MAX_FIRMS : firms;
    }

    public int owe(int debtor, int creditor, int amount) {
        if (!isFirm(debtor) || !isFirm(creditor)) {
            return -1;
        }
        if (debtor == creditor) {
            return -2;
        }
        if (!isAmount(amount)) {
            return -3;
        }
        if (debtCount >= MAX_DEBTS) {
            return -4;
        }
        int debt = debtCount;
        debtors[debt] = debtor;
        creditors[debt] = creditor;
        amounts[debt] = amount;
        debtCount = debt + 1;
        return debt;
    }

    public int change(int debt, int amount) {
        if (!isDebt(debt)) {
            return -1;
        }
        if (!isAmount(amount)) {
            return -2;
        }
        int before = amounts[debt];
        amounts[debt] = amount;
        return before;
    }

    public int pay(int debt) {
        if (!isDebt(debt)) {
            return -1;
        }
        for (int later = debt + 1; later < debtCount; later++) {
            debtors[later - 1] = debtors[later];
            creditors[later - 1] = creditors[later];
            amounts[later - 1] = amounts[later];
        }
        debtCount--;
        return debtCount;
    }

    public int exclude(int firm, int flag) {
        if (!isFirm(firm)) {
            return -1;
        }
        int before = out[firm] ? 1 : 0;
        out[firm] = flag != 0;
        return before;
    }

    public int clear() {
        int code = findBest(NO_FIRM);
        strikeOff(code);
        return totalOf(code);
    }

    public int carryOut(int code) {
        if (!clears(code, NO_FIRM)) {
            return -1;
        }
        strikeOff(code);
        return totalOf(code);
    }

    public int debts() {
        return debtCount;
    }

    public int amount(int debt) {
        return isDebt(debt) ? amounts[debt] : -1;
    }

    public int balance(int firm) {
        return isFirm(firm) ? balanceOf(firm) : NO_BALANCE;
    }

    public int outstanding() {
        int sum = 0;
        for (int debt = 0; debt < debtCount; debt++) {
            sum += amounts[debt];
        }
        return sum;
    }

    public int best() {
        return bestTotal(NO_FIRM);
    }

    public int bestCode() {
        return findBest(NO_FIRM);
    }

    public int isClearing(int code) {
        return clears(code, NO_FIRM) ? 1 : 0;
    }

    public int weight(int firm) {
        if (!isFirm(firm)) {
            return -1;
        }
        return bestTotal(NO_FIRM) - bestTotal(firm);
    }

    public int most(int debt) {
        if (!isDebt(debt)) {
            return -1;
        }
        int greatest = 0;
        int end = codeCount();
        for (int code = 0; code < end; code++) {
            int struck = struckOff(code, debt);
            if (struck > greatest && clears(code, NO_FIRM)) {
                greatest = struck;
            }
        }
        return greatest;
    }

    public int possible() {
        return bestTotal(NO_FIRM) > 0 ? 1 : 0;
    }

    // All balances together are 0, so paying each firm that is owed something just what it is
    // owed, by firms that owe, is enough; and no less can give those firms their balances.
    public int least() {
        int sum = 0;
        for (int firm = 0; firm < firmCount; firm++) {
            int due = balanceOf(firm);
            if (due > 0) {
                sum += due;
            }
        }
        return sum;
    }

    private boolean isFirm(int firm) {
        return firm >= 0 && firm < firmCount;
    }

    private boolean isDebt(int debt) {
        return debt >= 0 && debt < debtCount;
    }

    private static boolean isAmount(int amount) {
        return amount >= 0 && amount <= MAX_AMOUNT;
    }

    private int balanceOf(int firm) {
        int sum = 0;
        for (int debt = 0; debt < debtCount; debt++) {
            if (creditors[debt] == firm) {
                sum += amounts[debt];
            }
            if (debtors[debt] == firm) {
                sum -= amounts[debt];
            }
        }
        return sum;
    }

    private int codeCount() {
        return 1 << (BITS_PER_DIGIT * debtCount);
    }

    // Debt 0 is the first digit, that is the leading one of as many digits as there are debts.
    private int struckOff(int code, int debt) {
        return (code >> (BITS_PER_DIGIT * (debtCount - 1 - debt))) & DIGIT_MASK;
    }

    private int totalOf(int code) {
        int total = 0;
        for (int debt = 0; debt < debtCount; debt++) {
            total += struckOff(code, debt);
        }
        return total;
    }

    private void strikeOff(int code) {
        for (int debt = 0; debt < debtCount; debt++) {
            amounts[debt] -= struckOff(code, debt);
        }
    }

    private int bestTotal(int without) {
        int code = findBest(without);
        return totalOf(code);
    }

    // Codes are looked at from the least upwards, so that of equal totals the lesser code stays.
    private int findBest(int without) {
        int bestSoFar = 0;
        int greatest = 0;
        int end = codeCount();
        for (int code = 1; code < end; code++) {
            int total = totalOf(code);
            if (total > greatest && clears(code, without)) {
                bestSoFar = code;
                greatest = total;
            }
        }
        return bestSoFar;
    }

    /** Whether the code is that of a clearing if the firm `without` were out too. */
    private boolean clears(int code, int without) {
        if (code < 0 || code >= codeCount()) {
            return false;
        }
        for (int firm = 0; firm < firmCount; firm++) {
            gains[firm] = 0;
        }
        for (int debt = 0; debt < debtCount; debt++) {
            int struck = struckOff(code, debt);
            if (struck > limit(debt, without)) {
                return false;
            }
            gains[creditors[debt]] += struck;
            gains[debtors[debt]] -= struck;
        }
        for (int firm = 0; firm < firmCount; firm++) {
            if (gains[firm] != 0) {
                return false;
            }
        }
        return true;
    }

    private int limit(int debt, int without) {
        int debtor = debtors[debt];
        int creditor = creditors[debt];
        boolean barred = out[debtor] || out[creditor] || debtor == without || creditor == without;
        return barred ? 0 : amounts[debt];
    }
}

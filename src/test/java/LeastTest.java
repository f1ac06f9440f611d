import java.util.ArrayDeque;
import java.util.ArrayList;
import java.util.Arrays;
import java.util.HashMap;
import java.util.List;
import java.util.Map;

/**
 * Promise 18 by search: debts of 1 are added one after another, in every way, and the first time that
 * balances come up tells the least sum of amounts that gives them.
 */
public final class LeastTest {
    private static final int MOST_DEBTS = 7;
    private static final int MOST_AMOUNT = 3;

    private static int wrong = 0;
    private static int asked = 0;

    public static void main(String[] args) {
        search(2, 21);
        search(3, 12);
        search(4, 8);
        search(5, 6);
        System.out.println(wrong == 0 ? "all answers are as due" : wrong + " answers are not as due");
        if (wrong != 0 || asked < 1000) {
            System.exit(1);
        }
    }

    private static void search(int firms, int deepest) {
        Map<List<Integer>, Integer> least = new HashMap<>();
        ArrayDeque<List<Integer>> next = new ArrayDeque<>();
        List<Integer> even = new ArrayList<>(Arrays.asList(new Integer[firms]));
        even.replaceAll(nothing -> 0);
        least.put(even, 0);
        next.add(even);
        while (!next.isEmpty()) {
            List<Integer> balances = next.remove();
            int sum = least.get(balances);
            ask(balances, sum);
            for (int debtor = 0; debtor < firms && sum < deepest; debtor++) {
                for (int creditor = 0; creditor < firms; creditor++) {
                    List<Integer> more = withDebt(balances, debtor, creditor);
                    if (least.putIfAbsent(more, sum + 1) == null) {
                        next.add(more);
                    }
                }
            }
        }
    }

    private static List<Integer> withDebt(List<Integer> balances, int debtor, int creditor) {
        List<Integer> more = new ArrayList<>(balances);
        more.set(debtor, more.get(debtor) - 1);
        more.set(creditor, more.get(creditor) + 1);
        return more;
    }

    private static void ask(List<Integer> balances, int want) {
        ObligationNetting x = new ObligationNetting(balances.size());
        if (!giveBalances(x, balances)) {
            return;
        }
        due(balances, x, want);
        // What goes there and back is no part of the least sum, nor does it matter who is out.
        if (x.debts() <= MOST_DEBTS - 2) {
            x.owe(0, 1, 2);
            x.owe(1, 0, 2);
            due(balances, x, want);
        }
        for (int firm = 0; firm < balances.size(); firm++) {
            x.exclude(firm, 1);
            due(balances, x, want);
        }
    }

    private static void due(List<Integer> balances, ObligationNetting x, int want) {
        asked++;
        int got = x.least();
        if (got != want) {
            wrong++;
            System.out.println("balances " + balances + ": least() answered " + got + ", due is " + want);
        }
    }

    /** Whether seven debts were enough: each firm owes the next one what it and those before it lack. */
    private static boolean giveBalances(ObligationNetting x, List<Integer> balances) {
        int carried = 0;
        for (int firm = 0; firm + 1 < balances.size(); firm++) {
            carried -= balances.get(firm);
            for (int left = Math.abs(carried); left > 0; left -= MOST_AMOUNT) {
                int debtor = carried > 0 ? firm : firm + 1;
                int creditor = carried > 0 ? firm + 1 : firm;
                if (x.owe(debtor, creditor, Math.min(left, MOST_AMOUNT)) < 0) {
                    return false;
                }
            }
        }
        for (int firm = 0; firm < balances.size(); firm++) {
            if (x.balance(firm) != balances.get(firm)) {
                wrong++;
                System.out.println("balances " + balances + " were not given");
            }
        }
        return true;
    }
}

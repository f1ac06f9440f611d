import java.util.ArrayList;
import java.util.List;

/** Made-up runs, each answer compared with that of a plain model kept beside the program. */
public final class ModelTest {
    private static final int RUNS = 150;
    private static final int MOST_CALLS = 512;

    private static int wrong = 0;
    private static long seed = 20261115;

    /** The same numbers on every run of the test. */
    private static int below(int bound) {
        seed = seed * 6364136223846793005L + 1442695040888963407L;
        return (int) ((seed >>> 33) % bound);
    }

    public static void main(String[] args) {
        for (int run = 0; run < RUNS && wrong < 20; run++) {
            new Run(run).play();
        }
        System.out.println(wrong == 0 ? "all answers are as due" : wrong + " answers are not as due");
        if (wrong != 0) {
            System.exit(1);
        }
    }

    /** One object and its model, asked the same. */
    private static final class Run {
        final int number;
        final int firms;
        final ObligationNetting x;
        final Model model;
        final StringBuilder told = new StringBuilder();
        int calls = 0;

        Run(int number) {
            this.number = number;
            int given = below(9);
            firms = Math.max(2, Math.min(5, given));
            x = new ObligationNetting(given);
            model = new Model(firms);
            told.append("new(").append(given).append(")");
        }

        void due(String call, int got, int want) {
            calls++;
            if (got != want) {
                wrong++;
                System.out.println("run " + number + ": " + told + ": " + call + " answered " + got
                    + ", due is " + want);
            }
        }

        void play() {
            int start = below(8);
            for (int i = 0; i < start; i++) {
                oweSome();
            }
            askAll();
            while (calls < MOST_CALLS - 45) {
                changeSomething();
                askAll();
            }
        }

        void oweSome() {
            int debtor = below(firms);
            int creditor = (debtor + 1 + below(firms - 1)) % firms;
            oweThis(debtor, creditor, below(4));
        }

        void oweThis(int debtor, int creditor, int amount) {
            String call = "owe(" + debtor + ", " + creditor + ", " + amount + ")";
            due(call, x.owe(debtor, creditor, amount), model.owe(debtor, creditor, amount));
            told.append(" ").append(call);
        }

        void changeSomething() {
            int firm = below(firms + 2) - 1;
            int debt = below(model.list.size() + 2) - 1;
            int amount = below(6) - 1;
            int code = someCode();
            int flag = below(3) - 1;
            String call;
            switch (below(9)) {
                case 0: case 1:
                    oweSome();
                    return;
                case 2:
                    oweThis(firm, below(firms + 2) - 1, amount);
                    return;
                case 3:
                    call = "change(" + debt + ", " + amount + ")";
                    due(call, x.change(debt, amount), model.change(debt, amount));
                    break;
                case 4:
                    call = "pay(" + debt + ")";
                    due(call, x.pay(debt), model.pay(debt));
                    break;
                case 5: case 6:
                    call = "exclude(" + firm + ", " + flag + ")";
                    due(call, x.exclude(firm, flag), model.exclude(firm, flag));
                    break;
                case 7:
                    call = "carryOut(" + code + ")";
                    due(call, x.carryOut(code), model.carryOut(code));
                    break;
                default:
                    call = "clear()";
                    due(call, x.clear(), model.carryOut(model.code(model.best())));
                    break;
            }
            told.append(" ").append(call);
        }

        /** Half of them codes of clearings, which are rare among all codes. */
        int someCode() {
            if (below(2) == 0) {
                List<int[]> all = model.clearings();
                return model.code(all.get(below(all.size())));
            }
            return below((1 << (2 * model.list.size())) + 3) - 1;
        }

        void askAll() {
            List<int[]> all = model.clearings();
            int[] best = model.best();
            due("debts()", x.debts(), model.list.size());
            due("outstanding()", x.outstanding(), model.outstanding());
            due("best()", x.best(), Model.total(best));
            due("bestCode()", x.bestCode(), model.code(best));
            due("possible()", x.possible(), all.size() > 1 ? 1 : 0);
            due("least()", x.least(), model.least());
            for (int debt = -1; debt <= model.list.size(); debt++) {
                boolean good = debt >= 0 && debt < model.list.size();
                due("amount(" + debt + ")", x.amount(debt), good ? model.list.get(debt)[2] : -1);
                due("most(" + debt + ")", x.most(debt), good ? Model.most(all, debt) : -1);
            }
            for (int firm = -1; firm <= firms; firm++) {
                boolean good = firm >= 0 && firm < firms;
                due("balance(" + firm + ")", x.balance(firm), good ? model.balances()[firm] : -1000);
                due("weight(" + firm + ")", x.weight(firm), good ? model.weight(firm) : -1);
            }
            for (int i = 0; i < 3; i++) {
                int code = someCode();
                due("isClearing(" + code + ")", x.isClearing(code), model.find(code) == null ? 0 : 1);
            }
        }
    }

    /** The document's words over lists: a debt is {debtor, creditor, amount}. */
    private static final class Model {
        final int firms;
        final List<int[]> list = new ArrayList<>();
        final boolean[] out;

        Model(int firms) {
            this.firms = firms;
            out = new boolean[firms];
        }

        boolean goodFirm(int firm) {
            return firm >= 0 && firm < firms;
        }

        boolean goodDebt(int debt) {
            return debt >= 0 && debt < list.size();
        }

        int owe(int debtor, int creditor, int amount) {
            if (!goodFirm(debtor) || !goodFirm(creditor)) return -1;
            if (debtor == creditor) return -2;
            if (amount < 0 || amount > 3) return -3;
            if (list.size() == 7) return -4;
            list.add(new int[] {debtor, creditor, amount});
            return list.size() - 1;
        }

        int change(int debt, int amount) {
            if (!goodDebt(debt)) return -1;
            if (amount < 0 || amount > 3) return -2;
            int before = list.get(debt)[2];
            list.get(debt)[2] = amount;
            return before;
        }

        int pay(int debt) {
            if (!goodDebt(debt)) return -1;
            list.remove(debt);
            return list.size();
        }

        int exclude(int firm, int flag) {
            if (!goodFirm(firm)) return -1;
            int before = out[firm] ? 1 : 0;
            out[firm] = flag != 0;
            return before;
        }

        int carryOut(int code) {
            int[] clearing = find(code);
            if (clearing == null) return -1;
            for (int debt = 0; debt < clearing.length; debt++) {
                list.get(debt)[2] -= clearing[debt];
            }
            return total(clearing);
        }

        int outstanding() {
            return list.stream().mapToInt(debt -> debt[2]).sum();
        }

        int[] balances() {
            int[] balances = new int[firms];
            for (int[] debt : list) {
                balances[debt[0]] -= debt[2];
                balances[debt[1]] += debt[2];
            }
            return balances;
        }

        List<int[]> clearings() {
            List<int[]> found = new ArrayList<>();
            extend(new int[list.size()], 0, new int[firms], found);
            return found;
        }

        private void extend(int[] struck, int debt, int[] gains, List<int[]> found) {
            if (debt == struck.length) {
                for (int gain : gains) {
                    if (gain != 0) return;
                }
                found.add(struck.clone());
                return;
            }
            int[] it = list.get(debt);
            int limit = out[it[0]] || out[it[1]] ? 0 : it[2];
            for (int amount = 0; amount <= limit; amount++) {
                struck[debt] = amount;
                gains[it[0]] -= amount;
                gains[it[1]] += amount;
                extend(struck, debt + 1, gains, found);
                gains[it[0]] += amount;
                gains[it[1]] -= amount;
            }
        }

        int code(int[] clearing) {
            StringBuilder digits = new StringBuilder("0");
            for (int struck : clearing) {
                digits.append(struck);
            }
            return Integer.parseInt(digits.toString(), 4);
        }

        int[] find(int code) {
            for (int[] clearing : clearings()) {
                if (code(clearing) == code) return clearing;
            }
            return null;
        }

        int[] best() {
            int[] best = null;
            for (int[] clearing : clearings()) {
                if (best == null || total(clearing) > total(best)
                        || total(clearing) == total(best) && code(clearing) < code(best)) {
                    best = clearing;
                }
            }
            return best;
        }

        static int total(int[] clearing) {
            int total = 0;
            for (int struck : clearing) {
                total += struck;
            }
            return total;
        }

        static int most(List<int[]> clearings, int debt) {
            return clearings.stream().mapToInt(clearing -> clearing[debt]).max().getAsInt();
        }

        int weight(int firm) {
            int with = total(best());
            boolean before = out[firm];
            out[firm] = true;
            int without = total(best());
            out[firm] = before;
            return with - without;
        }

        /** Debts of 1 made one at a time, from a firm below its balance of 0 to one above. */
        int least() {
            int[] open = balances();
            int made = 0;
            while (true) {
                int debtor = -1;
                int creditor = -1;
                for (int firm = 0; firm < firms; firm++) {
                    if (open[firm] < 0) debtor = firm;
                    if (open[firm] > 0) creditor = firm;
                }
                if (debtor < 0) return made;
                open[debtor]++;
                open[creditor]--;
                made++;
            }
        }
    }
}

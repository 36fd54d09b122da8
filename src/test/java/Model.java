import java.util.ArrayList;
import java.util.List;
import java.util.TreeSet;

/**
 * The document's words, said again as plainly and as slowly as they stand: every question goes
 * through all plans, as lists of what they take, and every set by its definition. It shares
 * nothing with the class but the constants.
 */
final class Model {
    private static final class Rule {
        int kind, a, b, n, weight, mode = 1;
    }

    private final List<int[]> worths = new ArrayList<>();
    private final List<Rule> rules = new ArrayList<>();

    int choice(int candidates) {
        if (candidates < 1 || candidates > 6) return WhyNots.OUTSIDE;
        if (worths.size() == 5) return WhyNots.ROOM;
        worths.add(new int[candidates]);
        return worths.size() - 1;
    }

    int worth(int choice, int candidate, int w) {
        if (noCandidate(choice, candidate)) return WhyNots.UNKNOWN;
        if (Math.abs((long) w) > 1000) return WhyNots.OUTSIDE;
        int was = worths.get(choice)[candidate];
        worths.get(choice)[candidate] = w;
        return was;
    }

    int rule(int kind, int a, int b, int n, int weight) {
        boolean two = kind >= 1 && kind <= 5;
        if (kind == 0 && noChoice(a)) return WhyNots.UNKNOWN;
        if (two && (noChoice(a) || noChoice(b))) return WhyNots.UNKNOWN;
        if (kind < 0 || kind > 8) return WhyNots.OUTSIDE;
        if (two && a == b) return WhyNots.OUTSIDE;
        if ((kind == 0 || kind == 5) && (n < 0 || n > 63)) return WhyNots.OUTSIDE;
        if (kind == 3 && (n < -5 || n > 5)) return WhyNots.OUTSIDE;
        if ((kind == 4 || kind == 6 || kind == 7) && (n < 0 || n > 5)) return WhyNots.OUTSIDE;
        if ((kind == 6 || kind == 7) && (a < 0 || a > 5)) return WhyNots.OUTSIDE;
        if (kind == 8 && (a < 0 || a > 25 || b < 0 || b > 25 || a > b)) return WhyNots.OUTSIDE;
        if (weight < 1 || weight > 1000) return WhyNots.OUTSIDE;
        if (rules.size() == 12) return WhyNots.ROOM;
        Rule rule = new Rule();
        rule.kind = kind;
        rule.a = a;
        rule.b = b;
        rule.n = n;
        rule.weight = weight;
        rules.add(rule);
        return rules.size() - 1;
    }

    int mode(int rule, int m) {
        if (noRule(rule)) return WhyNots.UNKNOWN;
        if (m < 0 || m > 2) return WhyNots.OUTSIDE;
        int was = rules.get(rule).mode;
        rules.get(rule).mode = m;
        return was;
    }

    int weigh(int rule, int w) {
        if (noRule(rule)) return WhyNots.UNKNOWN;
        if (w < 1 || w > 1000) return WhyNots.OUTSIDE;
        int was = rules.get(rule).weight;
        rules.get(rule).weight = w;
        return was;
    }

    int told(int rule, int what) {
        if (noRule(rule)) return WhyNots.UNKNOWN;
        if (what < 0 || what > 5) return WhyNots.OUTSIDE;
        Rule r = rules.get(rule);
        return new int[] {r.kind, r.a, r.b, r.n, r.weight, r.mode}[what];
    }

    int count(int what) {
        switch (what) {
            case 0: return worths.size();
            case 1: return rules.size();
            case 2: return allPlans().size();
            case 3: return standing().size();
            case 4: return bests().size();
            case 5: return clashes().size();
            case 6: return relaxations().size();
            default: return WhyNots.OUTSIDE;
        }
    }

    int best() {
        int[] first = firstOf(standing());
        return first == null ? WhyNots.NO : scoreOf(first);
    }

    int pick(int choice) {
        if (noChoice(choice)) return WhyNots.UNKNOWN;
        int[] first = firstOf(standing());
        return first == null ? WhyNots.NO : first[choice];
    }

    int fixed(int choice) {
        if (noChoice(choice)) return WhyNots.UNKNOWN;
        TreeSet<Integer> taken = new TreeSet<>();
        for (int[] plan : bests()) taken.add(plan[choice]);
        if (taken.isEmpty()) return WhyNots.NO;
        return taken.size() == 1 ? taken.first() : WhyNots.NONE;
    }

    int force(int choice, int candidate) {
        if (noCandidate(choice, candidate)) return WhyNots.UNKNOWN;
        int[] first = firstOf(part(choice, candidate, true));
        return first == null ? WhyNots.NO : scoreOf(first);
    }

    int forced(int choice, int candidate, int of) {
        if (noCandidate(choice, candidate) || noChoice(of)) return WhyNots.UNKNOWN;
        int[] first = firstOf(part(choice, candidate, true));
        return first == null ? WhyNots.NO : first[of];
    }

    int avoid(int choice, int candidate) {
        if (noCandidate(choice, candidate)) return WhyNots.UNKNOWN;
        int[] first = firstOf(part(choice, candidate, false));
        return first == null ? WhyNots.NO : scoreOf(first);
    }

    int raise(int choice, int candidate) {
        if (noCandidate(choice, candidate)) return WhyNots.UNKNOWN;
        if (part(choice, candidate, true).isEmpty()) return WhyNots.NO;
        return leastShift(choice, candidate, 1, true);
    }

    int lower(int choice, int candidate) {
        if (noCandidate(choice, candidate)) return WhyNots.UNKNOWN;
        if (part(choice, candidate, false).isEmpty()) return WhyNots.NO;
        return leastShift(choice, candidate, -1, false);
    }

    int needs(int choice, int candidate) {
        if (noCandidate(choice, candidate)) return WhyNots.UNKNOWN;
        List<Integer> sets = new ArrayList<>();
        for (int[] plan : allPlans()) {
            if (plan[choice] == candidate) sets.add(brokenBy(plan, 1));
        }
        sets.sort((s, t) -> costOf(s) != costOf(t) ? Integer.compare(costOf(s), costOf(t)) : Integer.compare(s, t));
        return sets.get(0);
    }

    int clash() {
        TreeSet<Integer> broken = brokenSets();
        int left = hard();
        if (someKeeps(broken, left)) return 0;
        for (int k = 0; k < rules.size(); k++) {
            if ((left >> k & 1) == 1 && !someKeeps(broken, left - (1 << k))) left -= 1 << k;
        }
        return left;
    }

    int clashAt(int i) {
        List<Integer> all = clashes();
        return i < 0 || i >= all.size() ? WhyNots.NO : all.get(i);
    }

    int relaxAt(int i) {
        List<Integer> all = relaxations();
        return i < 0 || i >= all.size() ? WhyNots.NO : all.get(i);
    }

    int cost(int set) {
        if (set < 0) return WhyNots.UNKNOWN;
        for (int k = 0; k < 31; k++) {
            if ((set >> k & 1) == 1 && noRule(k)) return WhyNots.UNKNOWN;
        }
        return costOf(set);
    }

    int price(int rule) {
        if (noRule(rule)) return WhyNots.UNKNOWN;
        int before = best();
        if (before == WhyNots.NO) return WhyNots.NO;
        int was = mode(rule, 0);
        int after = best();
        mode(rule, was);
        return after - before;
    }

    int breaks(int a, int b, int c, int d, int e) {
        int[] plan = planOf(a, b, c, d, e);
        return plan == null ? WhyNots.UNKNOWN : brokenBy(plan, 1) + brokenBy(plan, 2);
    }

    int score(int a, int b, int c, int d, int e) {
        int[] plan = planOf(a, b, c, d, e);
        return plan == null ? WhyNots.UNKNOWN : scoreOf(plan);
    }

    private boolean noChoice(int choice) {
        return choice < 0 || choice >= worths.size();
    }

    private boolean noCandidate(int choice, int candidate) {
        return noChoice(choice) || candidate < 0 || candidate >= worths.get(choice).length;
    }

    private boolean noRule(int rule) {
        return rule < 0 || rule >= rules.size();
    }

    private int[] planOf(int... told) {
        int[] plan = new int[worths.size()];
        for (int c = 0; c < plan.length; c++) {
            if (noCandidate(c, told[c])) return null;
            plan[c] = told[c];
        }
        return plan;
    }

    private List<int[]> allPlans() {
        List<int[]> plans = new ArrayList<>();
        plans.add(new int[0]);
        for (int[] candidates : worths) {
            List<int[]> longer = new ArrayList<>();
            for (int[] plan : plans) {
                for (int k = 0; k < candidates.length; k++) {
                    int[] next = java.util.Arrays.copyOf(plan, plan.length + 1);
                    next[plan.length] = k;
                    longer.add(next);
                }
            }
            plans = longer;
        }
        return plans;
    }

    private static boolean keeps(int[] x, Rule r) {
        int taking = 0;
        int together = 0;
        for (int taken : x) {
            if (taken == r.a) taking++;
            together += taken;
        }
        switch (r.kind) {
            case 0: return java.math.BigInteger.valueOf(r.n).testBit(x[r.a]);
            case 1: return x[r.a] != x[r.b];
            case 2: return x[r.a] == x[r.b];
            case 3: return x[r.b] - x[r.a] >= r.n;
            case 4: return Math.max(x[r.a], x[r.b]) - Math.min(x[r.a], x[r.b]) <= r.n;
            case 5: return !(x[r.a] == r.n / 8 && x[r.b] != r.n % 8);
            case 6: return !(taking > r.n);
            case 7: return !(taking < r.n);
            default: return r.a <= together && together <= r.b;
        }
    }

    private int brokenBy(int[] plan, int mode) {
        int set = 0;
        for (int k = 0; k < rules.size(); k++) {
            if (rules.get(k).mode == mode && !keeps(plan, rules.get(k))) set += 1 << k;
        }
        return set;
    }

    private int costOf(int set) {
        int sum = 0;
        for (int k = 0; k < rules.size(); k++) {
            if ((set >> k & 1) == 1) sum += rules.get(k).weight;
        }
        return sum;
    }

    private int scoreOf(int[] plan) {
        int sum = 0;
        for (int c = 0; c < plan.length; c++) sum += worths.get(c)[plan[c]];
        return sum - costOf(brokenBy(plan, 2));
    }

    private List<int[]> standing() {
        List<int[]> found = new ArrayList<>();
        for (int[] plan : allPlans()) {
            if (brokenBy(plan, 1) == 0) found.add(plan);
        }
        return found;
    }

    private List<int[]> part(int choice, int candidate, boolean taking) {
        List<int[]> found = new ArrayList<>();
        for (int[] plan : standing()) {
            if ((plan[choice] == candidate) == taking) found.add(plan);
        }
        return found;
    }

    /** The plans come in their order: the first one of the greatest score. */
    private int[] firstOf(List<int[]> plans) {
        int[] first = null;
        int greatest = 0;
        for (int[] plan : plans) {
            int score = scoreOf(plan);
            if (first == null || score > greatest) {
                first = plan;
                greatest = score;
            }
        }
        return first;
    }

    private List<int[]> bests() {
        List<int[]> found = new ArrayList<>();
        List<int[]> plans = standing();
        int[] first = firstOf(plans);
        for (int[] plan : plans) {
            if (scoreOf(plan) == scoreOf(first)) found.add(plan);
        }
        return found;
    }

    /** By trial: changes the worth, looks what the best takes, and halves the way. */
    private int leastShift(int choice, int candidate, int sign, boolean taking) {
        int was = worths.get(choice)[candidate];
        List<int[]> plans = standing();
        int low = 0;
        int high = 65536;
        while (low < high) {
            int middle = (low + high) / 2;
            worths.get(choice)[candidate] = was + sign * middle;
            if ((firstOf(plans)[choice] == candidate) == taking) high = middle;
            else low = middle + 1;
        }
        worths.get(choice)[candidate] = was;
        return low;
    }

    private int hard() {
        int set = 0;
        for (int k = 0; k < rules.size(); k++) {
            if (rules.get(k).mode == 1) set += 1 << k;
        }
        return set;
    }

    private TreeSet<Integer> brokenSets() {
        TreeSet<Integer> sets = new TreeSet<>();
        for (int[] plan : allPlans()) sets.add(brokenBy(plan, 1));
        return sets;
    }

    private static boolean someKeeps(TreeSet<Integer> broken, int set) {
        for (int one : broken) {
            if ((one & set) == 0) return true;
        }
        return false;
    }

    private List<Integer> clashes() {
        List<Integer> found = new ArrayList<>();
        TreeSet<Integer> broken = brokenSets();
        int hard = hard();
        for (int set = 0; set < 4096; set++) {
            if ((set | hard) != hard || someKeeps(broken, set)) continue;
            boolean least = true;
            for (int k = 0; k < 12; k++) {
                if ((set >> k & 1) == 1) least &= someKeeps(broken, set - (1 << k));
            }
            if (least) found.add(set);
        }
        found.sort((s, t) -> Integer.bitCount(s) != Integer.bitCount(t)
                ? Integer.compare(Integer.bitCount(s), Integer.bitCount(t)) : Integer.compare(s, t));
        return found;
    }

    private List<Integer> relaxations() {
        List<Integer> found = new ArrayList<>();
        TreeSet<Integer> broken = brokenSets();
        int hard = hard();
        for (int set = 0; set < 4096; set++) {
            if ((set | hard) != hard || !someKeeps(broken, hard - set)) continue;
            boolean least = true;
            for (int k = 0; k < 12; k++) {
                if ((set >> k & 1) == 1) least &= !someKeeps(broken, hard - (set - (1 << k)));
            }
            if (least) found.add(set);
        }
        found.sort((s, t) -> costOf(s) != costOf(t) ? Integer.compare(costOf(s), costOf(t)) : Integer.compare(s, t));
        return found;
    }
}

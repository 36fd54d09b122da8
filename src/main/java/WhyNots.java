/**
 * Why a plan is not another one: choices with candidates, rules that must be kept or cost when
 * broken, the best plan, and what stands in the way of another one.
 *
 * Plans are numbered 0, 1, .. in their ORDER, so that the lesser number is always the plan that
 * comes first.
 */
public final class WhyNots {
    public static final int NONE = -1, UNKNOWN = -1000001, OUTSIDE = -1000002, ROOM = -1000003, NO = -1000004;

    private static final int MOST_CHOICES = 5;
    private static final int MOST_CANDIDATES = 6;
    private static final int MOST_PLANS = 7776;
    private static final int MOST_WORTH = 1000;
    private static final int MOST_RULES = 12;
    private static final int MOST_SETS = 1 << MOST_RULES;
    private static final int MOST_WEIGHT = 1000;
    private static final int MOST_SUM = 25;
    private static final int ALL_BITS = 63;
    private static final int OFF = 0, HARD = 1, SOFT = 2;

    /** No set of a family holds another one of it: of 12 rules there are at most 12 over 6 such sets. */
    private static final int MOST_LISTED = 924;

    private final Choices choices = new Choices();
    private final Rules rules = new Rules();

    /** For each plan the set of all rules, OFF ones too, that it does not keep. */
    private final int[] broken = new int[MOST_PLANS];
    private final int[] row = new int[MOST_CHOICES];

    /** What was found among all plans that stand; right only while it is not stale. */
    private final Top whole = new Top();
    private boolean wholeIsStale = true;
    private final Top with = new Top();
    private final Top without = new Top();

    /** For each set of HARD rules: does some plan keep all of it. Right, with both lists, only while not stale. */
    private final boolean[] possible = new boolean[MOST_SETS];
    private final Listing clashes = new Listing();
    private final Listing relaxations = new Listing();
    private boolean setsAreStale = true;

    public WhyNots() {
    }

    public int choice(int candidates) {
        if (candidates < 1 || candidates > MOST_CANDIDATES) {
            return OUTSIDE;
        }
        if (choices.size >= MOST_CHOICES) {
            return ROOM;
        }
        choices.add(candidates);
        // A choice that comes later counts in kinds 6, 7, 8: the old rules are judged anew.
        judgeFrom(0);
        forgetAll();
        return choices.size - 1;
    }

    public int worth(int choice, int candidate, int w) {
        if (!choices.hasCandidate(choice, candidate)) {
            return UNKNOWN;
        }
        if (w < -MOST_WORTH || w > MOST_WORTH) {
            return OUTSIDE;
        }
        wholeIsStale = true;
        return choices.changeWorth(choice, candidate, w);
    }

    public int rule(int kind, int a, int b, int n, int weight) {
        if (namesNoChoice(kind, a, b)) {
            return UNKNOWN;
        }
        if (!isWellTold(kind, a, b, n) || !isWeight(weight)) {
            return OUTSIDE;
        }
        if (rules.size >= MOST_RULES) {
            return ROOM;
        }
        int added = rules.add(kind, a, b, n, weight);
        judgeFrom(added);
        forgetAll();
        return added;
    }

    public int mode(int rule, int m) {
        if (!rules.has(rule)) {
            return UNKNOWN;
        }
        if (m < OFF || m > SOFT) {
            return OUTSIDE;
        }
        int before = rules.modes[rule];
        rules.modes[rule] = m;
        forgetAll();
        return before;
    }

    public int weigh(int rule, int w) {
        if (!rules.has(rule)) {
            return UNKNOWN;
        }
        if (!isWeight(w)) {
            return OUTSIDE;
        }
        forgetAll();
        return rules.changeWeight(rule, w);
    }

    public int told(int rule, int what) {
        if (!rules.has(rule)) {
            return UNKNOWN;
        }
        switch (what) {
            case 0:
                return rules.kinds[rule];
            case 1:
                return rules.as[rule];
            case 2:
                return rules.bs[rule];
            case 3:
                return rules.ns[rule];
            case 4:
                return rules.weights[rule];
            case 5:
                return rules.modes[rule];
            default:
                return OUTSIDE;
        }
    }

    public int count(int what) {
        switch (what) {
            case 0:
                return choices.size;
            case 1:
                return rules.size;
            case 2:
                return choices.plans;
            case 3:
                findWhole();
                return whole.seen;
            case 4:
                findWhole();
                return whole.alike;
            case 5:
                findSets();
                return clashes.size;
            case 6:
                findSets();
                return relaxations.size;
            default:
                return OUTSIDE;
        }
    }

    public int best() {
        findWhole();
        return whole.seen == 0 ? NO : whole.greatest;
    }

    public int pick(int choice) {
        if (!choices.has(choice)) {
            return UNKNOWN;
        }
        findWhole();
        return whole.seen == 0 ? NO : choices.taken(whole.first, choice);
    }

    public int fixed(int choice) {
        if (!choices.has(choice)) {
            return UNKNOWN;
        }
        findWhole();
        if (whole.seen == 0) {
            return NO;
        }
        int hard = rules.inMode(HARD);
        int soft = rules.inMode(SOFT);
        int candidate = choices.taken(whole.first, choice);
        for (int plan = whole.first + 1; plan < choices.plans; plan++) {
            if ((broken[plan] & hard) == 0 && scoreWith(plan, soft) == whole.greatest
                    && choices.taken(plan, choice) != candidate) {
                return NONE;
            }
        }
        return candidate;
    }

    public int force(int choice, int candidate) {
        if (!choices.hasCandidate(choice, candidate)) {
            return UNKNOWN;
        }
        findParts(choice, candidate);
        return with.seen == 0 ? NO : with.greatest;
    }

    public int forced(int choice, int candidate, int of) {
        if (!choices.hasCandidate(choice, candidate) || !choices.has(of)) {
            return UNKNOWN;
        }
        findParts(choice, candidate);
        return with.seen == 0 ? NO : choices.taken(with.first, of);
    }

    public int avoid(int choice, int candidate) {
        if (!choices.hasCandidate(choice, candidate)) {
            return UNKNOWN;
        }
        findParts(choice, candidate);
        return without.seen == 0 ? NO : without.greatest;
    }

    public int raise(int choice, int candidate) {
        if (!choices.hasCandidate(choice, candidate)) {
            return UNKNOWN;
        }
        findParts(choice, candidate);
        return with.seen == 0 ? NO : with.lacksAgainst(without);
    }

    public int lower(int choice, int candidate) {
        if (!choices.hasCandidate(choice, candidate)) {
            return UNKNOWN;
        }
        findParts(choice, candidate);
        return without.seen == 0 ? NO : without.lacksAgainst(with);
    }

    public int needs(int choice, int candidate) {
        if (!choices.hasCandidate(choice, candidate)) {
            return UNKNOWN;
        }
        int hard = rules.inMode(HARD);
        int least = NONE;
        for (int plan = 0; plan < choices.plans; plan++) {
            if (choices.taken(plan, choice) == candidate) {
                int set = broken[plan] & hard;
                if (least == NONE || rules.isCheaper(set, least)) {
                    least = set;
                }
            }
        }
        return least;
    }

    public int clash() {
        findSets();
        int left = rules.inMode(HARD);
        if (possible[left]) {
            return 0;
        }
        for (int rule = 0; rule < rules.size; rule++) {
            int rest = left & ~(1 << rule);
            if (!possible[rest]) {
                left = rest;
            }
        }
        return left;
    }

    public int clashAt(int i) {
        findSets();
        return clashes.at(i);
    }

    public int relaxAt(int i) {
        findSets();
        return relaxations.at(i);
    }

    public int cost(int set) {
        return set < 0 || set >= rules.sets() ? UNKNOWN : rules.costs[set];
    }

    public int price(int rule) {
        if (!rules.has(rule)) {
            return UNKNOWN;
        }
        findWhole();
        if (whole.seen == 0) {
            return NO;
        }
        int others = ~(1 << rule);
        lookAtAll(without, rules.inMode(HARD) & others, rules.inMode(SOFT) & others);
        return without.greatest - whole.greatest;
    }

    public int breaks(int a, int b, int c, int d, int e) {
        int plan = planOf(a, b, c, d, e);
        return plan == NONE ? UNKNOWN : broken[plan] & (rules.inMode(HARD) | rules.inMode(SOFT));
    }

    public int score(int a, int b, int c, int d, int e) {
        int plan = planOf(a, b, c, d, e);
        return plan == NONE ? UNKNOWN : scoreWith(plan, rules.inMode(SOFT));
    }

    private void forgetAll() {
        wholeIsStale = true;
        setsAreStale = true;
    }

    private static boolean isWeight(int w) {
        return w >= 1 && w <= MOST_WEIGHT;
    }

    /** Is a number that this kind, if there is such a kind, takes for a choice not one. */
    private boolean namesNoChoice(int kind, int a, int b) {
        if (kind == 0) {
            return !choices.has(a);
        }
        return kind >= 1 && kind <= 5 && (!choices.has(a) || !choices.has(b));
    }

    private static boolean isWellTold(int kind, int a, int b, int n) {
        switch (kind) {
            case 0:
                return n >= 0 && n <= ALL_BITS;
            case 1:
            case 2:
                return a != b;
            case 3:
                return a != b && n >= -5 && n <= 5;
            case 4:
                return a != b && n >= 0 && n <= 5;
            case 5:
                return a != b && n >= 0 && n <= ALL_BITS;
            case 6:
            case 7:
                return a >= 0 && a < MOST_CANDIDATES && n >= 0 && n <= 5;
            case 8:
                return a >= 0 && a <= b && b <= MOST_SUM;
            default:
                return false;
        }
    }

    /** Judges every plan by the rules from this one on; what the rules before it say stays. */
    private void judgeFrom(int rule) {
        int settled = (1 << rule) - 1;
        for (int plan = 0; plan < choices.plans; plan++) {
            choices.read(plan, row);
            int set = broken[plan] & settled;
            for (int next = rule; next < rules.size; next++) {
                if (!rules.isKept(next, row, choices.size)) {
                    set |= 1 << next;
                }
            }
            broken[plan] = set;
        }
    }

    /** The number of the plan that takes these; NONE if one that counts is no candidate. */
    private int planOf(int a, int b, int c, int d, int e) {
        row[0] = a;
        row[1] = b;
        row[2] = c;
        row[3] = d;
        row[4] = e;
        return choices.numberOf(row);
    }

    private int scoreWith(int plan, int soft) {
        return choices.sums[plan] - rules.costs[broken[plan] & soft];
    }

    private void lookAtAll(Top top, int hard, int soft) {
        top.clear();
        for (int plan = 0; plan < choices.plans; plan++) {
            if ((broken[plan] & hard) == 0) {
                top.see(plan, scoreWith(plan, soft));
            }
        }
    }

    private void findWhole() {
        if (wholeIsStale) {
            lookAtAll(whole, rules.inMode(HARD), rules.inMode(SOFT));
            wholeIsStale = false;
        }
    }

    /** Parts the plans that stand: those with the candidate, and those without it. */
    private void findParts(int choice, int candidate) {
        int hard = rules.inMode(HARD);
        int soft = rules.inMode(SOFT);
        with.clear();
        without.clear();
        for (int plan = 0; plan < choices.plans; plan++) {
            if ((broken[plan] & hard) == 0) {
                Top part = choices.taken(plan, choice) == candidate ? with : without;
                part.see(plan, scoreWith(plan, soft));
            }
        }
    }

    private void findSets() {
        if (setsAreStale) {
            int hard = rules.inMode(HARD);
            findPossible(hard);
            listSets(hard);
            setsAreStale = false;
        }
    }

    private void findPossible(int hard) {
        int sets = rules.sets();
        for (int set = 0; set < sets; set++) {
            possible[set] = false;
        }
        for (int plan = 0; plan < choices.plans; plan++) {
            possible[hard & ~broken[plan]] = true;
        }
        // Who keeps a set keeps every part of it: hand it down, one rule left out at a time.
        for (int rule = 0; rule < rules.size; rule++) {
            int bit = 1 << rule;
            for (int set = 0; set < sets; set++) {
                if (possible[set] && (set & bit) != 0) {
                    possible[set ^ bit] = true;
                }
            }
        }
    }

    private void listSets(int hard) {
        clashes.clear();
        relaxations.clear();
        int sets = rules.sets();
        for (int set = 0; set < sets; set++) {
            if ((set & ~hard) == 0) {
                if (isClash(set)) {
                    clashes.put(set, Integer.bitCount(set));
                }
                if (isRelaxation(set, hard)) {
                    relaxations.put(set, rules.costs[set]);
                }
            }
        }
    }

    private boolean isClash(int set) {
        if (possible[set]) {
            return false;
        }
        for (int rule = 0; rule < rules.size; rule++) {
            int bit = 1 << rule;
            if ((set & bit) != 0 && !possible[set ^ bit]) {
                return false;
            }
        }
        return true;
    }

    private boolean isRelaxation(int set, int hard) {
        int others = hard & ~set;
        if (!possible[others]) {
            return false;
        }
        for (int rule = 0; rule < rules.size; rule++) {
            int bit = 1 << rule;
            if ((set & bit) != 0 && possible[others | bit]) {
                return false;
            }
        }
        return true;
    }

    /** The choices, the worths of their candidates, and the numbers of the plans. */
    private static final class Choices {
        int size = 0;
        int plans = 1;
        final int[] candidates = new int[MOST_CHOICES];
        /** By how much a plan's number grows from one candidate of a choice to the next. */
        final int[] steps = new int[MOST_CHOICES];
        final int[] worths = new int[MOST_CHOICES * MOST_CANDIDATES];
        /** For each plan the worths of what it takes, together. */
        final int[] sums = new int[MOST_PLANS];

        boolean has(int choice) {
            return choice >= 0 && choice < size;
        }

        boolean hasCandidate(int choice, int candidate) {
            return has(choice) && candidate >= 0 && candidate < candidates[choice];
        }

        void add(int many) {
            // Each plan becomes as many as there are new candidates, from the last one down so that
            // no sum is written over before it is read; the new candidates' worths are 0.
            for (int plan = plans - 1; plan >= 0; plan--) {
                for (int next = many - 1; next >= 0; next--) {
                    sums[plan * many + next] = sums[plan];
                }
            }
            for (int choice = 0; choice < size; choice++) {
                steps[choice] *= many;
            }
            candidates[size] = many;
            steps[size] = 1;
            size++;
            plans *= many;
        }

        int changeWorth(int choice, int candidate, int w) {
            int at = choice * MOST_CANDIDATES + candidate;
            int before = worths[at];
            worths[at] = w;
            for (int plan = 0; plan < plans; plan++) {
                if (taken(plan, choice) == candidate) {
                    sums[plan] += w - before;
                }
            }
            return before;
        }

        int taken(int plan, int choice) {
            int step = steps[choice];
            int many = candidates[choice];
            return step < 1 || many < 1 ? 0 : plan / step % many;
        }

        void read(int plan, int[] row) {
            for (int choice = 0; choice < size; choice++) {
                row[choice] = taken(plan, choice);
            }
        }

        int numberOf(int[] row) {
            int plan = 0;
            for (int choice = 0; choice < size; choice++) {
                if (!hasCandidate(choice, row[choice])) {
                    return NONE;
                }
                plan += row[choice] * steps[choice];
            }
            return plan;
        }
    }

    /** The rules as they were told, and what each set of them costs. */
    private static final class Rules {
        int size = 0;
        final int[] kinds = new int[MOST_RULES];
        final int[] as = new int[MOST_RULES];
        final int[] bs = new int[MOST_RULES];
        final int[] ns = new int[MOST_RULES];
        final int[] weights = new int[MOST_RULES];
        final int[] modes = new int[MOST_RULES];
        final int[] costs = new int[MOST_SETS];

        boolean has(int rule) {
            return rule >= 0 && rule < size;
        }

        /** How many sets of these rules there are: every set's number is below it. */
        int sets() {
            return 1 << size;
        }

        int add(int kind, int a, int b, int n, int weight) {
            int added = size;
            kinds[added] = kind;
            as[added] = a;
            bs[added] = b;
            ns[added] = n;
            weights[added] = weight;
            modes[added] = HARD;
            int old = sets();
            for (int set = 0; set < old; set++) {
                costs[set + old] = costs[set] + weight;
            }
            size++;
            return added;
        }

        int changeWeight(int rule, int w) {
            int before = weights[rule];
            weights[rule] = w;
            int sets = sets();
            for (int set = 0; set < sets; set++) {
                if ((set >> rule & 1) == 1) {
                    costs[set] += w - before;
                }
            }
            return before;
        }

        int inMode(int mode) {
            int set = 0;
            for (int rule = 0; rule < size; rule++) {
                if (modes[rule] == mode) {
                    set |= 1 << rule;
                }
            }
            return set;
        }

        /** Does one set stand before another one: by cost, of like ones the lesser number first. */
        boolean isCheaper(int set, int other) {
            return costs[set] < costs[other] || costs[set] == costs[other] && set < other;
        }

        /** Where a and b are choices, they were found to be there when the rule was told. */
        boolean isKept(int rule, int[] x, int many) {
            int a = as[rule];
            int b = bs[rule];
            int n = ns[rule];
            switch (kinds[rule]) {
                case 0:
                    return (n >> x[a] & 1) == 1;
                case 1:
                    return x[a] != x[b];
                case 2:
                    return x[a] == x[b];
                case 3:
                    return x[b] >= x[a] + n;
                case 4:
                    return Math.abs(x[a] - x[b]) <= n;
                case 5:
                    return x[a] != n / 8 || x[b] == n % 8;
                case 6:
                    return howMany(a, x, many) <= n;
                case 7:
                    return howMany(a, x, many) >= n;
                default:
                    int sum = together(x, many);
                    return sum >= a && sum <= b;
            }
        }

        static int howMany(int candidate, int[] x, int many) {
            int found = 0;
            for (int choice = 0; choice < many; choice++) {
                if (x[choice] == candidate) {
                    found++;
                }
            }
            return found;
        }

        static int together(int[] x, int many) {
            int sum = 0;
            for (int choice = 0; choice < many; choice++) {
                sum += x[choice];
            }
            return sum;
        }
    }

    /** Of the plans that it was shown, in their order: how many, the greatest score, who has it. */
    private static final class Top {
        int seen = 0;
        int greatest = 0;
        int first = 0;
        int alike = 0;

        void clear() {
            seen = 0;
            greatest = 0;
            first = 0;
            alike = 0;
        }

        void see(int plan, int points) {
            if (seen == 0 || points > greatest) {
                greatest = points;
                first = plan;
                alike = 1;
            } else if (points == greatest) {
                alike++;
            }
            seen++;
        }

        /** How much must be added to all of these for the best of both to be here. */
        int lacksAgainst(Top other) {
            if (other.seen == 0) {
                return 0;
            }
            // At like scores the plan that comes first is the best: one more is needed behind it.
            int gap = other.greatest - greatest + (first < other.first ? 0 : 1);
            return Math.max(gap, 0);
        }
    }

    /** Sets in the order of a key, of like ones the one that was put first. */
    private static final class Listing {
        int size = 0;
        final int[] members = new int[MOST_LISTED];
        final int[] keys = new int[MOST_LISTED];

        void clear() {
            size = 0;
        }

        void put(int set, int key) {
            if (size >= MOST_LISTED) {
                return;
            }
            int at = size;
            while (at > 0 && keys[at - 1] > key) {
                members[at] = members[at - 1];
                keys[at] = keys[at - 1];
                at--;
            }
            members[at] = set;
            keys[at] = key;
            size++;
        }

        int at(int i) {
            return i < 0 || i >= size ? NO : members[i];
        }
    }
}

import java.util.Random;

/** Long runs of calls, drawn from fixed seeds, on the class and on the plain model: all answers alike. */
public final class ModelTest {
    private static final int CALLS = 512;
    private static final Check check = new Check();

    private static Random random;
    private static WhyNots real;
    private static Model model;
    private static int mostCandidates;
    private static int worthSpan;
    private static int weightSpan;

    public static void main(String[] args) {
        for (int seed = 0; seed < 240 && check.isClean(); seed++) {
            run(seed, 2 + seed % 2, 4);
        }
        for (int seed = 1000; seed < 1060 && check.isClean(); seed++) {
            run(seed, 4, 3);
        }
        for (int seed = 2000; seed < 2006 && check.isClean(); seed++) {
            run(seed, 6, 5);
        }
        check.end();
    }

    private static void run(int seed, int candidates, int choicesFirst) {
        random = new Random(seed);
        real = new WhyNots();
        model = new Model();
        mostCandidates = candidates;
        worthSpan = seed % 3 == 0 ? 1000 : 4;
        weightSpan = seed % 5 == 0 ? 1000 : 5;
        for (int i = 0; i < CALLS && check.isClean(); i++) {
            boolean young = i < choicesFirst + 14 && seed % 4 != 0;
            one(seed, i, young ? (i < choicesFirst ? 0 : 2) : random.nextInt(40));
        }
    }

    /** A number from 0 up to below the bound; now and then one beside it, or far away. */
    private static int near(int bound) {
        int dice = random.nextInt(60);
        if (dice == 0) return -1;
        if (dice == 1) return bound;
        if (dice == 2) return random.nextBoolean() ? Integer.MIN_VALUE : Integer.MAX_VALUE;
        if (dice == 3) return random.nextInt();
        return random.nextInt(Math.max(bound, 1));
    }

    private static int choice() {
        return near(model.count(0));
    }

    private static int candidate() {
        return near(mostCandidates);
    }

    private static int aRule() {
        return near(model.count(1));
    }

    private static void one(int seed, int i, int what) {
        int a = choice();
        int b = candidate();
        int c = candidate();
        int d = candidate();
        int e = candidate();
        int r = aRule();
        String at = "seed " + seed + ", call " + i + ": ";
        switch (what) {
            case 0:
                if (i < 5 || random.nextInt(6) == 0) {
                    int many = random.nextInt(12) == 0 ? near(8) : mostCandidates - random.nextInt(2);
                    check.due(at + "choice(" + many + ")", real.choice(many), model.choice(many));
                }
                break;
            case 1: case 25: case 26:
                int w = random.nextInt(30) == 0 ? 1000 + random.nextInt(2) : random.nextInt(2 * worthSpan + 1) - worthSpan;
                check.due(at + "worth(" + a + ", " + b + ", " + w + ")", real.worth(a, b, w), model.worth(a, b, w));
                break;
            case 2: case 27:
                addRule(at);
                break;
            case 3: case 28: case 29:
                int m = random.nextInt(30) == 0 ? near(3) : random.nextInt(10) < 6 ? 1 : random.nextInt(3);
                check.due(at + "mode(" + r + ", " + m + ")", real.mode(r, m), model.mode(r, m));
                break;
            case 4: case 30:
                int v = random.nextInt(20) == 0 ? 1000 * random.nextInt(2) + random.nextInt(2) : 1 + random.nextInt(weightSpan);
                check.due(at + "weigh(" + r + ", " + v + ")", real.weigh(r, v), model.weigh(r, v));
                break;
            case 5:
                int told = near(6);
                check.due(at + "told(" + r + ", " + told + ")", real.told(r, told), model.told(r, told));
                break;
            case 6: case 31:
                int of = near(7);
                check.due(at + "count(" + of + ")", real.count(of), model.count(of));
                break;
            case 7: case 32:
                check.due(at + "best()", real.best(), model.best());
                break;
            case 8:
                check.due(at + "pick(" + a + ")", real.pick(a), model.pick(a));
                break;
            case 9: case 33:
                check.due(at + "fixed(" + a + ")", real.fixed(a), model.fixed(a));
                break;
            case 10:
                check.due(at + "force(" + a + ", " + b + ")", real.force(a, b), model.force(a, b));
                break;
            case 11:
                int other = choice();
                check.due(at + "forced(" + a + ", " + b + ", " + other + ")", real.forced(a, b, other), model.forced(a, b, other));
                break;
            case 12:
                check.due(at + "avoid(" + a + ", " + b + ")", real.avoid(a, b), model.avoid(a, b));
                break;
            case 13: case 34:
                check.due(at + "raise(" + a + ", " + b + ")", real.raise(a, b), model.raise(a, b));
                break;
            case 14: case 35:
                check.due(at + "lower(" + a + ", " + b + ")", real.lower(a, b), model.lower(a, b));
                break;
            case 15: case 36:
                check.due(at + "needs(" + a + ", " + b + ")", real.needs(a, b), model.needs(a, b));
                break;
            case 16: case 37:
                check.due(at + "clash()", real.clash(), model.clash());
                break;
            case 17: case 38:
                int i1 = near(model.count(5));
                check.due(at + "clashAt(" + i1 + ")", real.clashAt(i1), model.clashAt(i1));
                break;
            case 18: case 39:
                int i2 = near(model.count(6));
                check.due(at + "relaxAt(" + i2 + ")", real.relaxAt(i2), model.relaxAt(i2));
                break;
            case 19:
                int set = near(1 << model.count(1));
                check.due(at + "cost(" + set + ")", real.cost(set), model.cost(set));
                break;
            case 20: case 21:
                check.due(at + "price(" + r + ")", real.price(r), model.price(r));
                break;
            case 22: case 23:
                int first = candidate();
                check.due(at + "breaks(" + first + ", " + b + ", " + c + ", " + d + ", " + e + ")",
                        real.breaks(first, b, c, d, e), model.breaks(first, b, c, d, e));
                break;
            default:
                int zeroth = candidate();
                check.due(at + "score(" + zeroth + ", " + b + ", " + c + ", " + d + ", " + e + ")",
                        real.score(zeroth, b, c, d, e), model.score(zeroth, b, c, d, e));
                break;
        }
    }

    private static void addRule(String at) {
        int kind = near(9);
        int a = kind == 8 ? near(6) : kind >= 6 ? near(6) : choice();
        int b = kind == 8 ? near(26) : choice();
        int n = kind == 3 ? near(11) - 5 : kind == 0 || kind == 5 ? near(64) : near(6);
        if (kind == 5 && random.nextBoolean()) n = 8 * random.nextInt(mostCandidates) + random.nextInt(mostCandidates);
        int weight = random.nextInt(30) == 0 ? 1001 * random.nextInt(2) : 1 + random.nextInt(weightSpan);
        check.due(at + "rule(" + kind + ", " + a + ", " + b + ", " + n + ", " + weight + ")",
                real.rule(kind, a, b, n, weight), model.rule(kind, a, b, n, weight));
    }
}

import java.util.Set;
import java.util.TreeSet;

/** The promises one by one: ordinary inputs, the edges that the document names, wrong inputs. */
public final class PromisesTest {
    private static final int UNKNOWN = -1000001, OUTSIDE = -1000002, ROOM = -1000003, NO = -1000004, NONE = -1;
    private static final int MIN = Integer.MIN_VALUE, MAX = Integer.MAX_VALUE;
    private static final Check check = new Check();
    private static String promise = "";
    private static final Set<String> looked = new TreeSet<>();

    public static void main(String[] args) {
        newObject();
        choice();
        worth();
        rule();
        ruleRefusals();
        kinds();
        laterChoices();
        mode();
        weigh();
        told();
        count();
        best();
        pick();
        fixed();
        force();
        forced();
        avoid();
        raise();
        lower();
        needs();
        clash();
        clashAt();
        relaxAt();
        cost();
        price();
        breaks();
        score();
        atFullSize();
        allPromises();
        check.end();
    }

    private static void due(String call, int got, int want) {
        check.due(promise + ": " + call, got, want);
        looked.add(promise.replaceAll(" .*", ""));
    }

    /** The document's last promise is the 24th; what is due at full size belongs to none alone. */
    private static void allPromises() {
        for (int number = 1; number <= 24; number++) {
            check.holds("promise " + number + " was looked at", looked.contains("" + number));
        }
    }

    private static WhyNots of(int... candidates) {
        return Build.of(candidates);
    }

    private static void worths(WhyNots x, int choice, int... worths) {
        Build.worths(x, choice, worths);
    }

    private static void newObject() {
        promise = "1 A new object";
        due("NONE", WhyNots.NONE, NONE);
        due("UNKNOWN", WhyNots.UNKNOWN, UNKNOWN);
        due("OUTSIDE", WhyNots.OUTSIDE, OUTSIDE);
        due("ROOM", WhyNots.ROOM, ROOM);
        due("NO", WhyNots.NO, NO);
        WhyNots x = new WhyNots();
        int[] want = {0, 0, 1, 1, 1, 0, 1};
        for (int what = 0; what < 7; what++) {
            due("count(" + what + ")", x.count(what), want[what]);
        }
        due("best()", x.best(), 0);
        due("told(0, 0)", x.told(0, 0), UNKNOWN);
        due("score(9, 9, 9, 9, 9)", x.score(9, 9, 9, 9, 9), 0);
        due("clash()", x.clash(), 0);
        due("relaxAt(0)", x.relaxAt(0), 0);
        WhyNots y = new WhyNots();
        y.choice(3);
        due("count(0) of another one", x.count(0), 0);
    }

    private static void choice() {
        promise = "2 choice";
        WhyNots x = new WhyNots();
        for (int wrong : new int[] {0, 7, -1, MIN, MAX}) {
            due("choice(" + wrong + ")", x.choice(wrong), OUTSIDE);
        }
        int[] sizes = {1, 6, 2, 3, 4};
        int[] plans = {1, 6, 12, 36, 144};
        for (int i = 0; i < 5; i++) {
            due("choice(" + sizes[i] + ")", x.choice(sizes[i]), i);
            due("count(2)", x.count(2), plans[i]);
            due("worth of the last", x.worth(i, sizes[i] - 1, 0), 0);
            due("worth behind it", x.worth(i, sizes[i], 0), UNKNOWN);
        }
        due("choice(1)", x.choice(1), ROOM);
        due("choice(7), full", x.choice(7), OUTSIDE);
        due("count(0)", x.count(0), 5);
    }

    private static void worth() {
        promise = "3 worth";
        WhyNots x = of(2, 3);
        due("at first", x.worth(0, 0, 1000), 0);
        due("again", x.worth(0, 0, -1000), 1000);
        due("again", x.worth(0, 0, 7), -1000);
        due("another candidate", x.worth(0, 1, 1), 0);
        due("another choice", x.worth(1, 0, 2), 0);
        due("above", x.worth(0, 0, 1001), OUTSIDE);
        due("below", x.worth(0, 0, -1001), OUTSIDE);
        due("far", x.worth(0, 0, MIN), OUTSIDE);
        due("no such candidate", x.worth(0, 2, 5), UNKNOWN);
        due("no such candidate", x.worth(0, -1, 5), UNKNOWN);
        due("no such choice", x.worth(2, 0, 5), UNKNOWN);
        due("no such choice", x.worth(-1, 0, 5), UNKNOWN);
        due("both wrong", x.worth(2, 0, 5000), UNKNOWN);
        due("what stayed", x.worth(0, 0, 8), 7);
        due("score", x.score(0, 0, 0, 0, 0), 10);
        x.choice(2);
        due("score with a later choice", x.score(0, 0, 1, 0, 0), 10);
        due("score of another", x.score(1, 2, 1, 0, 0), 1);
        due("worth of the later one", x.worth(2, 1, 100), 0);
        due("its score", x.score(1, 0, 1, 0, 0), 103);
        due("and without it", x.score(1, 0, 0, 0, 0), 3);
    }

    private static void rule() {
        promise = "4 rule";
        WhyNots x = of(3, 3);
        for (int i = 0; i < 12; i++) {
            due("rule " + i, x.rule(i % 9, 0, 1, 1, 1 + i), i);
            due("its mode", x.told(i, 5), 1);
        }
        due("a thirteenth", x.rule(1, 0, 1, 0, 1), ROOM);
        due("full and OUTSIDE", x.rule(1, 0, 1, 0, 0), OUTSIDE);
        due("full and UNKNOWN", x.rule(1, 0, 2, 0, 1), UNKNOWN);
        due("count(1)", x.count(1), 12);
    }

    private static void refused(WhyNots x, int want, int kind, int a, int b, int n, int weight) {
        due("rule(" + kind + ", " + a + ", " + b + ", " + n + ", " + weight + ")", x.rule(kind, a, b, n, weight), want);
    }

    private static void taken(int kind, int a, int b, int n, int weight) {
        refused(of(3, 3), 0, kind, a, b, n, weight);
    }

    private static void ruleRefusals() {
        promise = "4 rule";
        WhyNots x = of(3, 3);
        for (int kind : new int[] {-1, 9, MIN, MAX}) {
            refused(x, OUTSIDE, kind, 0, 1, 0, 1);
            refused(x, OUTSIDE, kind, 7, 7, 0, 1);
        }
        for (int wrong : new int[] {-1, 2, MIN, MAX}) {
            refused(x, UNKNOWN, 0, wrong, 0, 0, 1);
            refused(x, UNKNOWN, 0, wrong, 0, 64, 0);
            for (int kind = 1; kind <= 5; kind++) {
                refused(x, UNKNOWN, kind, wrong, 0, 0, 1);
                refused(x, UNKNOWN, kind, 0, wrong, 0, 1);
                refused(x, UNKNOWN, kind, wrong, wrong, 0, 1);
                refused(x, UNKNOWN, kind, wrong, 0, 99, 5000);
            }
        }
        for (int kind = 0; kind <= 8; kind++) {
            for (int weight : new int[] {0, 1001, -1, MIN, MAX}) {
                refused(x, OUTSIDE, kind, 0, 1, 0, weight);
            }
            taken(kind, 0, 1, 0, 1);
            taken(kind, 0, 1, 0, 1000);
        }
        for (int kind = 1; kind <= 5; kind++) {
            refused(x, OUTSIDE, kind, 1, 1, 0, 1);
        }
        int[][] span = {{0, 0, 63}, {3, -5, 5}, {4, 0, 5}, {5, 0, 63}, {6, 0, 5}, {7, 0, 5}};
        for (int[] s : span) {
            refused(x, OUTSIDE, s[0], 0, 1, s[1] - 1, 1);
            refused(x, OUTSIDE, s[0], 0, 1, s[2] + 1, 1);
            refused(x, OUTSIDE, s[0], 0, 1, MIN, 1);
            refused(x, OUTSIDE, s[0], 0, 1, MAX, 1);
            taken(s[0], 0, 1, s[1], 1);
            taken(s[0], 0, 1, s[2], 1);
        }
        for (int kind = 6; kind <= 7; kind++) {
            refused(x, OUTSIDE, kind, -1, 0, 0, 1);
            refused(x, OUTSIDE, kind, 6, 0, 0, 1);
            taken(kind, 5, MIN, 0, 1);
        }
        refused(x, OUTSIDE, 8, -1, 3, 0, 1);
        refused(x, OUTSIDE, 8, 3, 2, 0, 1);
        refused(x, OUTSIDE, 8, 3, 26, 0, 1);
        refused(x, OUTSIDE, 8, 26, 26, 0, 1);
        taken(8, 0, 25, MAX, 1);
        taken(8, 25, 25, 0, 1);
        taken(8, 0, 0, 0, 1);
        taken(0, 0, MAX, 0, 1);
        taken(1, 0, 1, MAX, 1);
        taken(2, 0, 1, MIN, 1);
        due("count(1)", x.count(1), 0);
    }

    /** Every plan of two choices with six candidates against what the kind's words say of it. */
    private static void keptBy(int kind, int a, int b, int n) {
        WhyNots x = of(6, 6);
        x.rule(kind, a, b, n, 1);
        for (int p = 0; p < 6; p++) {
            for (int q = 0; q < 6; q++) {
                int[] t = {p, q};
                int takes = (p == a ? 1 : 0) + (q == a ? 1 : 0);
                boolean kept;
                switch (kind) {
                    case 0: kept = n / (int) Math.pow(2, t[a]) % 2 == 1; break;
                    case 1: kept = p != q; break;
                    case 2: kept = p == q; break;
                    case 3: kept = t[b] >= t[a] + n; break;
                    case 4: kept = t[a] - t[b] <= n && t[b] - t[a] <= n; break;
                    case 5: kept = t[a] != n / 8 || t[b] == n % 8; break;
                    case 6: kept = takes <= n; break;
                    case 7: kept = takes >= n; break;
                    default: kept = p + q >= a && p + q <= b; break;
                }
                due("kind " + kind + ", a " + a + ", b " + b + ", n " + n + ": breaks(" + p + ", " + q + ")",
                        x.breaks(p, q, 0, 0, 0), kept ? 0 : 1);
            }
        }
    }

    private static void kinds() {
        promise = "4 rule, the kinds";
        for (int n = 0; n < 64; n++) {
            keptBy(0, 1, 99, n);
            keptBy(5, 0, 1, n);
            keptBy(5, 1, 0, n);
        }
        keptBy(1, 0, 1, 3);
        keptBy(2, 1, 0, -3);
        for (int n = -5; n <= 5; n++) {
            keptBy(3, 0, 1, n);
            keptBy(3, 1, 0, n);
        }
        for (int n = 0; n <= 5; n++) {
            keptBy(4, 0, 1, n);
            keptBy(4, 1, 0, n);
            for (int a = 0; a < 6; a++) {
                keptBy(6, a, 7, n);
                keptBy(7, a, -7, n);
            }
        }
        for (int a = 0; a <= 11; a++) {
            for (int b = a; b <= 11; b++) {
                keptBy(8, a, b, 77);
            }
        }
    }

    private static void laterChoices() {
        promise = "4 rule, later choices";
        WhyNots x = new WhyNots();
        x.rule(6, 1, 0, 1, 1);
        x.rule(7, 1, 0, 2, 1);
        x.rule(8, 3, 4, 0, 1);
        due("without choices", x.breaks(0, 0, 0, 0, 0), 6);
        x.choice(3);
        due("one", x.breaks(1, 0, 0, 0, 0), 6);
        x.choice(3);
        due("two", x.breaks(1, 1, 0, 0, 0), 5);
        x.choice(3);
        due("three", x.breaks(1, 1, 1, 0, 0), 1);
        due("three", x.breaks(1, 0, 2, 0, 0), 2);
        x.rule(1, 0, 2, 0, 1);
        x.choice(3);
        x.choice(3);
        due("five", x.breaks(1, 1, 1, 1, 1), 13);
        due("five", x.breaks(1, 0, 0, 1, 1), 1);
        due("five", x.breaks(2, 0, 2, 0, 0), 10);
    }

    private static void mode() {
        promise = "5 mode";
        WhyNots x = of(2);
        x.rule(0, 0, 0, 1, 5);
        x.rule(0, 0, 0, 2, 7);
        due("HARD at first", x.mode(0, 2), 1);
        due("SOFT then", x.mode(0, 0), 2);
        due("OFF then", x.mode(0, 1), 0);
        due("the other one", x.mode(1, 1), 1);
        for (int wrong : new int[] {-1, 3, MIN, MAX}) {
            due("mode(0, " + wrong + ")", x.mode(0, wrong), OUTSIDE);
        }
        for (int wrong : new int[] {-1, 2, 12, MIN, MAX}) {
            due("mode(" + wrong + ", 0)", x.mode(wrong, 0), UNKNOWN);
            due("mode(" + wrong + ", 9)", x.mode(wrong, 9), UNKNOWN);
        }
        due("both HARD", x.best(), NO);
        x.mode(0, 0);
        due("OFF", x.best(), 0);
        x.mode(0, 2);
        due("SOFT", x.best(), -5);
        x.mode(1, 2);
        due("both SOFT", x.best(), -5);
        due("both SOFT", x.pick(0), 1);
        x.mode(1, 0);
        due("the other OFF", x.pick(0), 0);
    }

    private static void weigh() {
        promise = "6 weigh";
        WhyNots x = of(2);
        x.rule(0, 0, 0, 1, 5);
        x.rule(0, 0, 0, 2, 7);
        due("as told", x.weigh(0, 1), 5);
        due("then", x.weigh(0, 1000), 1);
        due("then", x.weigh(0, 9), 1000);
        due("the other one", x.weigh(1, 8), 7);
        for (int wrong : new int[] {0, 1001, -1, MIN, MAX}) {
            due("weigh(0, " + wrong + ")", x.weigh(0, wrong), OUTSIDE);
        }
        for (int wrong : new int[] {-1, 2, 12, MIN, MAX}) {
            due("weigh(" + wrong + ", 1)", x.weigh(wrong, 1), UNKNOWN);
            due("weigh(" + wrong + ", 0)", x.weigh(wrong, 0), UNKNOWN);
        }
        due("cost(3)", x.cost(3), 17);
        due("relaxAt(0)", x.relaxAt(0), 2);
        x.weigh(0, 3);
        due("cost(1)", x.cost(1), 3);
        due("cost(2)", x.cost(2), 8);
        due("cost(3)", x.cost(3), 11);
        due("relaxAt(0), weighed anew", x.relaxAt(0), 1);
        x.mode(0, 2);
        due("best()", x.best(), -3);
        x.weigh(0, 4);
        due("best(), weighed anew", x.best(), -4);
    }

    private static void told() {
        promise = "7 told";
        WhyNots x = of(3, 3);
        x.rule(0, 1, MIN, 5, 6);
        x.rule(8, 2, 3, MAX, 1000);
        x.rule(6, 5, -77, 4, 1);
        x.mode(1, 2);
        x.weigh(2, 33);
        int[][] want = {{0, 1, MIN, 5, 6, 1}, {8, 2, 3, MAX, 1000, 2}, {6, 5, -77, 4, 33, 1}};
        for (int r = 0; r < 3; r++) {
            for (int what = 0; what < 6; what++) {
                due("told(" + r + ", " + what + ")", x.told(r, what), want[r][what]);
            }
            for (int wrong : new int[] {-1, 6, MIN, MAX}) {
                due("told(" + r + ", " + wrong + ")", x.told(r, wrong), OUTSIDE);
            }
        }
        for (int wrong : new int[] {-1, 3, 12, MIN, MAX}) {
            due("told(" + wrong + ", 0)", x.told(wrong, 0), UNKNOWN);
            due("told(" + wrong + ", 6)", x.told(wrong, 6), UNKNOWN);
        }
    }

    private static void counts(WhyNots x, int... want) {
        for (int what = 0; what < 7; what++) {
            due("count(" + what + ")", x.count(what), want[what]);
        }
    }

    private static void count() {
        promise = "8 count";
        WhyNots x = of(3, 4);
        counts(x, 2, 0, 12, 12, 12, 0, 1);
        x.rule(2, 0, 1, 0, 5);
        counts(x, 2, 1, 12, 3, 3, 0, 1);
        x.worth(0, 2, 1);
        counts(x, 2, 1, 12, 3, 1, 0, 1);
        x.rule(0, 1, 0, 8, 5);
        counts(x, 2, 2, 12, 0, 0, 1, 2);
        x.rule(0, 1, 0, 7, 5);
        counts(x, 2, 3, 12, 0, 0, 2, 2);
        x.mode(1, 2);
        counts(x, 2, 3, 12, 3, 1, 0, 1);
        for (int wrong : new int[] {-1, 7, MIN, MAX}) {
            due("count(" + wrong + ")", x.count(wrong), OUTSIDE);
        }
    }

    private static void best() {
        promise = "9 best";
        WhyNots x = of(2, 2);
        worths(x, 0, 5, 7);
        worths(x, 1, -2, -10);
        due("no rules", x.best(), 5);
        x.rule(2, 0, 1, 0, 3);
        due("HARD", x.best(), 3);
        x.mode(0, 2);
        due("SOFT, like when kept and when broken", x.best(), 3);
        x.weigh(0, 1);
        due("SOFT, broken for more", x.best(), 4);
        x.worth(1, 1, 6);
        due("SOFT, kept", x.best(), 13);
        x.worth(1, 0, 9);
        due("SOFT, broken for more", x.best(), 15);
        x.mode(0, 1);
        x.rule(1, 0, 1, 0, 3);
        due("none", x.best(), NO);
        WhyNots y = of(1, 1, 1, 1, 1);
        for (int c = 0; c < 5; c++) {
            y.worth(c, 0, -1000);
        }
        for (int r = 0; r < 12; r++) {
            y.rule(7, 5, 0, 1, 1000);
            y.mode(r, 2);
        }
        due("the least there is", y.best(), -17000);
    }

    private static void pick() {
        promise = "10 pick";
        WhyNots x = of(3, 2);
        due("all alike", x.pick(0), 0);
        worths(x, 0, 0, 4, 4);
        worths(x, 1, 1, 1);
        due("the first of the like", x.pick(0), 1);
        due("the first of the like", x.pick(1), 0);
        x.rule(1, 0, 1, 0, 1);
        due("by order, choice 0 first", x.pick(0), 1);
        due("by order, choice 0 first", x.pick(1), 0);
        x.rule(0, 1, 0, 2, 1);
        due("kept", x.pick(0), 2);
        due("kept", x.pick(1), 1);
        for (int wrong : new int[] {-1, 2, 5, MIN, MAX}) {
            due("pick(" + wrong + ")", x.pick(wrong), UNKNOWN);
        }
        x.rule(0, 1, 0, 1, 1);
        due("none", x.pick(0), NO);
        due("none, unknown", x.pick(2), UNKNOWN);
    }

    private static void fixed() {
        promise = "11 fixed";
        WhyNots x = of(3, 3);
        due("not alike", x.fixed(0), NONE);
        x.worth(0, 2, 9);
        due("alike", x.fixed(0), 2);
        due("not alike", x.fixed(1), NONE);
        x.rule(4, 0, 1, 0, 1);
        due("alike by a rule", x.fixed(1), 2);
        x.worth(0, 0, 9);
        due("two of them", x.fixed(1), NONE);
        x.rule(0, 0, 0, 3, 4);
        due("one stands", x.fixed(1), 0);
        x.mode(1, 2);
        due("SOFT", x.fixed(1), 0);
        for (int wrong : new int[] {-1, 2, 5, MIN, MAX}) {
            due("fixed(" + wrong + ")", x.fixed(wrong), UNKNOWN);
        }
        x.rule(1, 0, 1, 0, 1);
        due("none", x.fixed(0), NO);
        due("none, unknown", x.fixed(2), UNKNOWN);
        WhyNots y = of(2, 2);
        y.rule(1, 0, 1, 0, 1);
        y.rule(0, 0, 0, 1, 1);
        y.worth(0, 0, 1);
        due("what does not stand is not looked at", y.fixed(1), 1);
        due("two plans", of(2).fixed(0), NONE);
        due("one plan", of(1).fixed(0), 0);
    }

    private static WhyNots pairs() {
        WhyNots x = of(3, 3);
        worths(x, 0, 1, 5, 3);
        worths(x, 1, 10, 20, 20);
        x.rule(1, 0, 1, 0, 6);
        return x;
    }

    private static void wrongPairs(WhyNots x, String name) {
        int[][] wrong = {{2, 0}, {-1, 0}, {0, 3}, {0, -1}, {MIN, MIN}, {MAX, MAX}, {5, 0}, {0, 6}};
        for (int[] w : wrong) {
            int got;
            switch (name) {
                case "force": got = x.force(w[0], w[1]); break;
                case "forced": got = x.forced(w[0], w[1], 0); break;
                case "avoid": got = x.avoid(w[0], w[1]); break;
                case "raise": got = x.raise(w[0], w[1]); break;
                case "lower": got = x.lower(w[0], w[1]); break;
                default: got = x.needs(w[0], w[1]); break;
            }
            due(name + "(" + w[0] + ", " + w[1] + ")", got, UNKNOWN);
        }
    }

    private static void force() {
        promise = "12 force";
        WhyNots x = pairs();
        due("force(0, 0)", x.force(0, 0), 21);
        due("force(0, 1)", x.force(0, 1), 25);
        due("force(1, 0)", x.force(1, 0), 15);
        due("force(1, 1)", x.force(1, 1), 23);
        x.mode(0, 2);
        due("SOFT", x.force(1, 1), 23);
        x.weigh(0, 1);
        due("SOFT, broken", x.force(1, 1), 24);
        wrongPairs(x, "force");
        x.rule(0, 1, 0, 1, 1);
        due("none with it", x.force(1, 1), NO);
        due("some with it", x.force(1, 0), 15);
        x.rule(0, 1, 0, 0, 1);
        due("none", x.force(1, 0), NO);
        wrongPairs(x, "force");
    }

    private static void forced() {
        promise = "13 forced";
        WhyNots x = pairs();
        due("the first of two", x.forced(0, 0, 1), 1);
        due("kept", x.forced(0, 1, 1), 2);
        due("of itself", x.forced(0, 2, 0), 2);
        due("the best", x.forced(1, 0, 0), 1);
        due("the best", x.forced(1, 1, 0), 2);
        for (int wrong : new int[] {-1, 2, 5, MIN, MAX}) {
            due("forced(0, 0, " + wrong + ")", x.forced(0, 0, wrong), UNKNOWN);
        }
        wrongPairs(x, "forced");
        x.rule(0, 0, 0, 1, 1);
        due("none with it", x.forced(0, 1, 1), NO);
        due("none with it, unknown", x.forced(0, 1, 2), UNKNOWN);
        due("some with it", x.forced(0, 0, 1), 1);
        wrongPairs(x, "forced");
    }

    private static void avoid() {
        promise = "14 avoid";
        WhyNots x = pairs();
        due("avoid(0, 0)", x.avoid(0, 0), 25);
        due("avoid(0, 1)", x.avoid(0, 1), 23);
        due("avoid(1, 2)", x.avoid(1, 2), 23);
        due("avoid(1, 1)", x.avoid(1, 1), 25);
        wrongPairs(x, "avoid");
        x.rule(0, 0, 0, 2, 1);
        due("all take it", x.avoid(0, 1), NO);
        due("none takes it", x.avoid(0, 0), 25);
        x.rule(0, 0, 0, 1, 1);
        due("none", x.avoid(0, 0), NO);
        wrongPairs(x, "avoid");
        due("the only candidate", of(1).avoid(0, 0), NO);
    }

    private static void raise() {
        promise = "15 raise";
        WhyNots x = of(3, 2);
        worths(x, 0, 4, 6, 4);
        due("before the best: a draw is enough", x.raise(0, 0), 2);
        due("the best", x.raise(0, 1), 0);
        due("behind the best: one more", x.raise(0, 2), 3);
        due("the first of the like", x.raise(1, 0), 0);
        due("the second of the like", x.raise(1, 1), 1);
        worths(x, 0, -1000, 1000, -1000);
        due("beyond 1000", x.raise(0, 0), 2000);
        due("beyond 1000", x.raise(0, 2), 2001);
        wrongPairs(x, "raise");
        x.rule(0, 0, 0, 4, 1);
        due("nothing takes it", x.raise(0, 0), NO);
        due("all take it", x.raise(0, 2), 0);
        x.rule(0, 0, 0, 1, 1);
        due("none", x.raise(0, 2), NO);
        wrongPairs(x, "raise");
        WhyNots y = of(2, 2);
        y.rule(2, 0, 1, 0, 5);
        y.mode(0, 2);
        worths(y, 0, 3, 0);
        worths(y, 1, 3, 0);
        due("SOFT", y.raise(0, 1), 7);
    }

    private static void lower() {
        promise = "16 lower";
        WhyNots x = of(3, 2);
        worths(x, 0, 4, 6, 5);
        due("not taken", x.lower(0, 0), 0);
        due("a later one comes first by one more", x.lower(0, 1), 2);
        due("of like ones the first", x.lower(1, 0), 1);
        due("of like ones the second", x.lower(1, 1), 0);
        x.worth(0, 0, 5);
        due("an earlier one comes first by a draw", x.lower(0, 1), 1);
        worths(x, 0, 1000, -1000, -1000);
        due("far", x.lower(0, 0), 2001);
        wrongPairs(x, "lower");
        x.rule(0, 0, 0, 4, 1);
        due("all take it", x.lower(0, 2), NO);
        due("nothing takes it", x.lower(0, 0), 0);
        x.rule(0, 0, 0, 1, 1);
        due("none", x.lower(0, 0), NO);
        wrongPairs(x, "lower");
    }

    private static void needs() {
        promise = "17 needs";
        WhyNots x = of(3, 3);
        due("no rules", x.needs(0, 0), 0);
        x.rule(1, 0, 1, 0, 4);
        x.rule(0, 1, 0, 1, 4);
        due("kept", x.needs(0, 1), 0);
        due("of like cost the least number", x.needs(0, 0), 1);
        x.weigh(0, 5);
        due("the least cost", x.needs(0, 0), 2);
        due("its own rule", x.needs(1, 2), 2);
        x.mode(1, 2);
        due("SOFT ones do not count", x.needs(0, 0), 0);
        x.mode(1, 0);
        due("OFF ones do not count", x.needs(1, 2), 0);
        x.mode(1, 1);
        x.rule(0, 0, 0, 6, 1);
        due("two", x.needs(0, 0), 6);
        x.rule(0, 0, 0, 0, 1000);
        due("none stands", x.needs(0, 0), 14);
        wrongPairs(x, "needs");
        WhyNots y = of(2, 2);
        y.rule(0, 1, 0, 1, 9);
        y.rule(0, 1, 0, 2, 4);
        due("the cheaper one, though its number is greater", y.needs(0, 0), 2);
    }

    private static void clash() {
        promise = "18 clash";
        WhyNots x = of(2);
        due("no rules", x.clash(), 0);
        x.rule(0, 0, 0, 1, 1);
        due("one stands", x.clash(), 0);
        x.rule(0, 0, 0, 2, 1);
        due("two", x.clash(), 3);
        x.rule(0, 0, 0, 1, 1);
        due("the first one is left out", x.clash(), 6);
        x.rule(0, 0, 0, 2, 1);
        due("the last ones stay", x.clash(), 12);
        x.mode(2, 2);
        due("SOFT ones are not in it", x.clash(), 9);
        x.mode(3, 0);
        due("OFF ones are not in it", x.clash(), 3);
        x.rule(0, 0, 0, 0, 1);
        due("one alone", x.clash(), 16);
        x.mode(4, 2);
        x.mode(0, 2);
        due("none left", x.clash(), 0);
    }

    private static void listed(WhyNots x, boolean clashes, int... want) {
        for (int i = 0; i < want.length; i++) {
            due((clashes ? "clashAt(" : "relaxAt(") + i + ")", clashes ? x.clashAt(i) : x.relaxAt(i), want[i]);
        }
        for (int i : new int[] {want.length, -1, 924, 4096, MIN, MAX}) {
            due((clashes ? "clashAt(" : "relaxAt(") + i + ")", clashes ? x.clashAt(i) : x.relaxAt(i), NO);
        }
        due("how many", x.count(clashes ? 5 : 6), want.length);
    }

    private static void clashAt() {
        promise = "19 clashAt";
        WhyNots x = of(2, 2);
        listed(x, true);
        x.rule(1, 0, 1, 0, 9);
        x.rule(0, 0, 0, 1, 1);
        x.rule(0, 1, 0, 1, 1);
        listed(x, true, 7);
        x.rule(0, 0, 0, 2, 1);
        x.rule(2, 0, 1, 0, 1);
        listed(x, true, 10, 17, 7, 28);
        x.rule(7, 5, 0, 1, 1);
        listed(x, true, 32, 10, 17, 7, 28);
        x.mode(5, 0);
        x.mode(3, 2);
        listed(x, true, 17, 7);
        x.mode(3, 1);
        listed(x, true, 10, 17, 7, 28);
        x.choice(6);
        x.mode(5, 1);
        listed(x, true, 10, 17, 7, 28);
        x.mode(0, 0);
        x.mode(1, 0);
        listed(x, true, 28);
        x.mode(2, 0);
        listed(x, true);
    }

    private static void relaxAt() {
        promise = "20 relaxAt";
        WhyNots x = of(2, 2);
        listed(x, false, 0);
        x.rule(1, 0, 1, 0, 9);
        x.rule(0, 0, 0, 1, 4);
        listed(x, false, 0);
        x.rule(0, 1, 0, 1, 4);
        listed(x, false, 2, 4, 1);
        x.weigh(1, 5);
        listed(x, false, 4, 2, 1);
        x.rule(0, 0, 0, 2, 1);
        listed(x, false, 2, 12, 9);
        x.weigh(0, 4);
        listed(x, false, 2, 9, 12);
        x.mode(1, 2);
        listed(x, false, 0);
        x.rule(7, 5, 0, 1, 1);
        listed(x, false, 16);
        x.mode(1, 1);
        listed(x, false, 18, 25, 28);
        x.choice(6);
        listed(x, false, 2, 9, 12);
    }

    private static void cost() {
        promise = "21 cost";
        WhyNots x = of(2, 2);
        due("cost(0)", x.cost(0), 0);
        due("cost(1)", x.cost(1), UNKNOWN);
        int[] weights = {1, 20, 300, 1000, 7};
        for (int r = 0; r < 5; r++) {
            x.rule(1, 0, 1, 0, weights[r]);
            x.mode(r, r % 3);
        }
        for (int set = 0; set < 32; set++) {
            int want = 0;
            for (int r = 0; r < 5; r++) {
                want += set / (1 << r) % 2 * weights[r];
            }
            due("cost(" + set + ")", x.cost(set), want);
        }
        for (int wrong : new int[] {32, 33, 63, 4096, 1 << 30, MAX, -1, -32, MIN, MIN + 1}) {
            due("cost(" + wrong + ")", x.cost(wrong), UNKNOWN);
        }
        for (int r = 5; r < 12; r++) {
            x.rule(1, 0, 1, 0, 1000);
        }
        due("all of twelve", x.cost(4095), 8328);
        due("one more", x.cost(4096), UNKNOWN);
    }

    private static void price() {
        promise = "22 price";
        WhyNots x = of(2, 2);
        worths(x, 0, 0, 10);
        x.rule(0, 0, 0, 1, 3);
        due("HARD", x.price(0), 10);
        due("left as it was", x.told(0, 5), 1);
        x.mode(0, 2);
        due("SOFT", x.price(0), 3);
        x.weigh(0, 30);
        due("SOFT, dear", x.price(0), 10);
        x.mode(0, 0);
        due("OFF", x.price(0), 0);
        x.mode(0, 1);
        x.rule(0, 0, 0, 3, 3);
        due("kept by all", x.price(1), 0);
        for (int wrong : new int[] {-1, 2, 12, 32, MIN, MAX}) {
            due("price(" + wrong + ")", x.price(wrong), UNKNOWN);
        }
        x.rule(0, 0, 0, 2, 3);
        due("none stands", x.price(0), NO);
        due("none stands, of a kept one", x.price(1), NO);
        x.mode(1, 0);
        due("none stands, of an OFF one", x.price(1), NO);
        due("none stands, unknown", x.price(3), UNKNOWN);
        WhyNots y = of(2);
        y.worth(0, 1, 10);
        y.rule(0, 0, 0, 1, 1);
        y.rule(0, 0, 0, 1, 3);
        y.mode(1, 2);
        due("a SOFT one costs still", y.price(0), 7);
        due("a HARD one binds still", y.price(1), 0);
    }

    private static void breaks() {
        promise = "23 breaks";
        WhyNots x = of(2, 3);
        x.rule(0, 0, 0, 1, 1);
        x.rule(0, 1, 0, 4, 1);
        x.rule(1, 0, 1, 0, 1);
        due("all", x.breaks(1, 1, 0, 0, 0), 7);
        due("some", x.breaks(0, 1, 0, 0, 0), 2);
        due("none", x.breaks(0, 2, 0, 0, 0), 0);
        x.mode(0, 2);
        due("SOFT", x.breaks(1, 1, 0, 0, 0), 7);
        x.mode(1, 0);
        due("OFF", x.breaks(1, 1, 0, 0, 0), 5);
        due("others are not looked at", x.breaks(1, 1, MAX, MIN, -1), 5);
        due("no such candidate", x.breaks(2, 0, 0, 0, 0), UNKNOWN);
        due("no such candidate", x.breaks(0, 3, 0, 0, 0), UNKNOWN);
        due("no such candidate", x.breaks(-1, 0, 0, 0, 0), UNKNOWN);
        due("no such candidate", x.breaks(0, MIN, 0, 0, 0), UNKNOWN);
        WhyNots y = of(2, 2, 2, 2, 2);
        due("the last one", y.breaks(0, 0, 0, 0, 2), UNKNOWN);
        due("the last but one", y.breaks(0, 0, 0, 2, 0), UNKNOWN);
        due("the middle one", y.breaks(0, 0, -1, 0, 0), UNKNOWN);
        y.rule(0, 4, 0, 1, 1);
        y.rule(0, 3, 0, 1, 1);
        y.rule(0, 2, 0, 1, 1);
        due("the last one", y.breaks(0, 0, 0, 0, 1), 1);
        due("the last but one", y.breaks(0, 0, 0, 1, 0), 2);
        due("the middle one", y.breaks(0, 0, 1, 0, 0), 4);
    }

    private static void score() {
        promise = "24 score";
        WhyNots x = of(2, 3);
        worths(x, 0, 1, 20);
        worths(x, 1, 300, 40, -5);
        due("worths", x.score(1, 0, 0, 0, 0), 320);
        due("worths", x.score(0, 2, 0, 0, 0), -4);
        x.rule(0, 0, 0, 1, 1000);
        x.rule(0, 1, 0, 1, 7);
        due("HARD ones do not count", x.score(1, 1, 0, 0, 0), 60);
        x.mode(1, 2);
        due("SOFT ones do", x.score(1, 1, 0, 0, 0), 53);
        due("kept ones do not", x.score(1, 0, 0, 0, 0), 320);
        x.mode(0, 2);
        due("both", x.score(1, 1, MIN, 9, 9), -947);
        x.mode(1, 0);
        due("OFF ones do not", x.score(1, 1, 0, 0, 0), -940);
        due("no such candidate", x.score(2, 0, 0, 0, 0), UNKNOWN);
        due("no such candidate", x.score(0, 3, 0, 0, 0), UNKNOWN);
        due("no such candidate", x.score(0, -1, 0, 0, 0), UNKNOWN);
        due("no such candidate", x.score(MAX, 0, 0, 0, 0), UNKNOWN);
        WhyNots y = of(2, 2, 2, 2, 2);
        for (int c = 0; c < 5; c++) {
            y.worth(c, 1, 1 << c);
        }
        due("all five", y.score(1, 1, 1, 1, 1), 31);
        due("two", y.score(0, 0, 1, 0, 1), 20);
        due("two", y.score(1, 0, 0, 1, 0), 9);
        due("the last one", y.score(0, 0, 0, 0, 2), UNKNOWN);
    }

    private static void atFullSize() {
        promise = "all choices, candidates and rules that there can be";
        WhyNots x = of(6, 6, 6, 6, 6);
        for (int c = 0; c < 5; c++) {
            worths(x, c, 0, 1, 2, 3, 4, 5);
        }
        for (int r = 0; r < 12; r++) {
            due("rule " + r, x.rule(6, r % 6, 0, 1, 1 + r), r);
        }
        counts(x, 5, 12, 7776, 720, 120, 0, 1);
        due("best()", x.best(), 15);
        due("pick(0)", x.pick(0), 1);
        due("pick(4)", x.pick(4), 5);
        due("fixed(0)", x.fixed(0), NONE);
        due("force(4, 0)", x.force(4, 0), 14);
        due("forced(4, 0, 0)", x.forced(4, 0, 0), 2);
        due("avoid(0, 1)", x.avoid(0, 1), 15);
        due("raise(4, 1)", x.raise(4, 1), 1);
        due("lower(0, 1)", x.lower(0, 1), 1);
        due("price(5)", x.price(5), 0);
        due("the last plan breaks", x.breaks(5, 5, 5, 5, 5), 2080);
        due("its score", x.score(5, 5, 5, 5, 5), 25);
        due("worth(4, 5, 100)", x.worth(4, 5, 100), 5);
        due("best()", x.best(), 110);
        due("fixed(4)", x.fixed(4), 5);
        x.weigh(11, 1000);
        due("cost(4095)", x.cost(4095), 66 + 1000);
        x.mode(5, 2);
        x.mode(11, 2);
        due("SOFT", x.best(), 110);
        due("its score", x.score(5, 5, 5, 5, 5), 120 - 1006);
        due("needs(0, 0)", x.needs(0, 0), 0);
        due("clash()", x.clash(), 0);
    }
}

import java.nio.file.Files;
import java.nio.file.Path;
import java.util.ArrayList;
import java.util.List;
import java.util.TreeSet;
import java.util.function.Consumer;
import java.util.function.Supplier;

/**
 * The document from its first line to its last: its words are read off one after the other, so that
 * none is left out, and behind each sentence stands what it makes due. A question is compared with
 * what the object itself does when that comes to pass of which the question asks: a candidate is
 * forced by a rule, a rule is put OFF, a worth is changed.
 */
public final class DocumentTest {
    private static final int UNKNOWN = -1000001, OUTSIDE = -1000002, ROOM = -1000003, NO = -1000004, NONE = -1;
    private static final Check check = new Check();

    /** What has not been read yet; null where the document is not at hand: then its words are not compared. */
    private static String rest;
    private static String sentence = "";

    /** An object that can be made anew, and how many candidates its choices have. */
    private record Example(String name, Supplier<WhyNots> make, int... sizes) {
        WhyNots but(Consumer<WhyNots> change) {
            WhyNots x = make.get();
            change.accept(x);
            return x;
        }
    }

    private static final List<Example> EXAMPLES = List.of(
            new Example("empty", Build::empty),
            new Example("middle", Build::middle, 3, 2),
            new Example("clashing", Build::clashing, 3, 2),
            new Example("like", DocumentTest::like, 3, 3, 2),
            new Example("crowded", DocumentTest::crowded, 3, 3, 2),
            new Example("crowded, SOFT", DocumentTest::crowdedSoft, 3, 3, 2));

    public static void main(String[] args) throws Exception {
        Path file = Path.of("../shared/DOC.md");
        rest = Files.exists(file) ? plain(Files.readString(file)) : null;
        whatItIs();
        face(Files.readString(Path.of("src/main/java/WhyNots.java")));
        choicesAndPlans();
        rules();
        kinds();
        scoreAndBest();
        clashesAndRelaxations();
        refusals();
        changes();
        bests();
        pairs();
        sets();
        plans();
        notPromised();
        check.holds("all of it has been read, but: " + rest, rest == null || rest.isEmpty());
        check.end();
    }

    /** Several plans have the greatest score, and some of these do not stand. */
    private static WhyNots like() {
        WhyNots x = Build.of(3, 3, 2);
        Build.worths(x, 0, 4, 2, 4);
        Build.worths(x, 1, 6, 6, 5);
        x.rule(1, 0, 1, 0, 7);
        x.rule(0, 2, 0, 2, 1);
        x.rule(4, 0, 1, 1, 1);
        x.mode(2, 2);
        return x;
    }

    /** Nine rules that clash in several ways, of like and of unlike weights, one SOFT and one OFF. */
    private static WhyNots crowded() {
        WhyNots x = Build.of(3, 3, 2);
        Build.worths(x, 0, 3, 0, 3);
        Build.worths(x, 1, -2, 4, 4);
        Build.worths(x, 2, 1, 0);
        int[][] rows = {{1, 0, 1, 0, 4}, {2, 0, 1, 0, 4}, {0, 2, 0, 2, 2}, {5, 2, 0, 10, 2}, {6, 2, 0, 0, 3},
            {7, 1, 0, 2, 9}, {8, 1, 2, 0, 5}, {3, 1, 0, 1, 1}, {4, 1, 2, 0, 2}};
        for (int[] row : rows) {
            x.rule(row[0], row[1], row[2], row[3], row[4]);
        }
        x.mode(7, 2);
        x.mode(8, 0);
        return x;
    }

    private static WhyNots crowdedSoft() {
        WhyNots x = crowded();
        for (int r = 1; r < 9; r += 2) {
            x.mode(r, 2);
        }
        return x;
    }

    // ---- reading

    private static String plain(String text) {
        return text.replace("```java", " ").replace("```text", " ").replace("```", " ").replaceAll("\\s+", " ").strip();
    }

    /** The next words of the document: what is due from here on is due by them. */
    private static void says(String words) {
        sentence = words;
        if (rest == null) {
            return;
        }
        if (rest.startsWith(words)) {
            rest = rest.substring(words.length()).strip();
        } else {
            check.holds("the document goes on: " + words + " -- but: " + rest, false);
            rest = null;
        }
    }

    private static void promise(int number, String name, String call, String words) {
        says("## Promise " + number + ": " + name);
        says("`" + call + "`:");
        says(words);
    }

    private static void due(String call, int got, int want) {
        check.due("'" + sentence + "': " + call, got, want);
    }

    private static void holds(String what, boolean is) {
        check.holds("'" + sentence + "': " + what, is);
    }

    private interface Pair {
        void of(Example example, int choice, int candidate);
    }

    private static void eachPair(Pair look) {
        for (Example example : EXAMPLES) {
            for (int c = 0; c < example.sizes.length; c++) {
                for (int k = 0; k < example.sizes[c]; k++) {
                    look.of(example, c, k);
                }
            }
        }
    }

    // ---- what the terms make of the answers of breaks, score and told

    private static List<int[]> plansOf(Example example) {
        List<int[]> plans = new ArrayList<>();
        int[] sizes = java.util.Arrays.copyOf(example.sizes, 5);
        for (int a = 0; a < Math.max(sizes[0], 1); a++) {
            for (int b = 0; b < Math.max(sizes[1], 1); b++) {
                for (int c = 0; c < Math.max(sizes[2], 1); c++) {
                    plans.add(new int[] {a, b, c, 0, 0});
                }
            }
        }
        return plans;
    }

    private static int breaks(WhyNots x, int[] p) {
        return x.breaks(p[0], p[1], p[2], p[3], p[4]);
    }

    private static int score(WhyNots x, int[] p) {
        return x.score(p[0], p[1], p[2], p[3], p[4]);
    }

    private static int inMode(WhyNots x, int mode) {
        int set = 0;
        for (int r = 0; r < x.count(1); r++) {
            set += x.told(r, 5) == mode ? 1 << r : 0;
        }
        return set;
    }

    private static List<int[]> standing(Example example) {
        WhyNots x = example.make.get();
        int hard = inMode(x, 1);
        List<int[]> found = new ArrayList<>();
        for (int[] plan : plansOf(example)) {
            if ((breaks(x, plan) & hard) == 0) {
                found.add(plan);
            }
        }
        return found;
    }

    private static List<int[]> greatest(Example example) {
        WhyNots x = example.make.get();
        List<int[]> found = new ArrayList<>();
        for (int[] plan : standing(example)) {
            if (!found.isEmpty() && score(x, plan) > score(x, found.get(0))) {
                found.clear();
            }
            if (found.isEmpty() || score(x, plan) == score(x, found.get(0))) {
                found.add(plan);
            }
        }
        return found;
    }

    /** Puts all HARD rules OFF but those of the set: does a plan keep all of the set. */
    private static boolean someKeeps(Example example, int set) {
        return example.but(x -> {
            int hard = inMode(x, 1);
            for (int r = 0; r < x.count(1); r++) {
                if ((hard >> r & 1) == 1 && (set >> r & 1) == 0) {
                    x.mode(r, 0);
                }
            }
        }).best() != NO;
    }

    private interface SetOfRules {
        boolean is(int set);
    }

    /** All sets of HARD rules for which it is so, but for none of them with one rule less. */
    private static List<Integer> leastSets(Example example, SetOfRules so) {
        int hard = inMode(example.make.get(), 1);
        List<Integer> found = new ArrayList<>();
        for (int set = 0; set <= hard; set++) {
            boolean least = (set & ~hard) == 0 && so.is(set);
            for (int r = 0; r < 12 && least; r++) {
                least = (set >> r & 1) == 0 || !so.is(set - (1 << r));
            }
            if (least) {
                found.add(set);
            }
        }
        return found;
    }

    // ---- What it is, The public face

    private static void whatItIs() {
        says("# WhyNots");
        says("## What it is");
        says("Why a plan is not another one: choices with candidates, rules that must be kept, or cost when broken; "
                + "the best plan, and what each question shows: the best with a candidate or without it, by how much "
                + "a candidate's worth must change, which rules stand in the way, all least sets of rules that clash, "
                + "all least sets without which some plan stands, what a rule costs.");
        WhyNots x = Build.of(2);
        Build.worths(x, 0, 5, 8);
        x.rule(0, 0, 0, 1, 2);
        due("the best plan", x.best(), 5);
        due("which rules stand in the way", x.needs(0, 1), 1);
        due("what a rule costs", x.price(0), 3);
        x.mode(0, 2);
        due("the best with a candidate", x.force(0, 0), 5);
        due("the best without it", x.avoid(0, 0), 6);
        due("by how much its worth must change", x.raise(0, 0), 1);
        says("======== 1 CHOICES 0, 1, ..");
        for (int c = 0; c < 5; c++) {
            due("the next choice", Build.of(java.util.Arrays.copyOf(new int[] {2, 2, 2, 2}, Math.min(c, 4))).choice(2), c);
        }
        says("An object is used for at most 512 calls after it has been made; what later calls answer is free.");
        WhyNots y = Build.of(6, 6, 6, 6, 6);
        for (int call = 6; call <= 512; call++) {
            due("call " + call, y.count(2), 7776);
        }
    }

    private static void face(String source) {
        says("## The public face");
        says("public final class WhyNots {");
        String code = plain(source);
        holds("the class", code.contains(sentence));
        String[] lines = {
            "public static final int NONE = -1, UNKNOWN = -1000001, OUTSIDE = -1000002, ROOM = -1000003, NO = -1000004;",
            "public WhyNots();", "public int choice(int candidates);",
            "public int worth(int choice, int candidate, int w);",
            "public int rule(int kind, int a, int b, int n, int weight);", "public int mode(int rule, int m);",
            "public int weigh(int rule, int w);", "public int told(int rule, int what);", "public int count(int what);",
            "public int best();", "public int pick(int choice);", "public int fixed(int choice);",
            "public int force(int choice, int candidate);", "public int forced(int choice, int candidate, int of);",
            "public int avoid(int choice, int candidate);", "public int raise(int choice, int candidate);",
            "public int lower(int choice, int candidate);", "public int needs(int choice, int candidate);",
            "public int clash();", "public int clashAt(int i);", "public int relaxAt(int i);",
            "public int cost(int set);", "public int price(int rule);",
            "public int breaks(int a, int b, int c, int d, int e);",
            "public int score(int a, int b, int c, int d, int e);"};
        for (String line : lines) {
            says(line);
            holds("so it stands in the class", code.contains(line.contains("(") ? line.replace(";", " {") : line));
        }
        says("}");
        due("all that is public", code.split("\\bpublic ", -1).length - 1, lines.length + 1);
    }

    // ---- Terms

    private static void choicesAndPlans() {
        says("## Terms");
        says("(5 at most) have CANDIDATES 0, 1, .. (1 .. 6);");
        due("a sixth choice", Build.of(1, 2, 3, 4, 5).choice(6), ROOM);
        due("no candidate", new WhyNots().choice(0), OUTSIDE);
        due("seven", new WhyNots().choice(7), OUTSIDE);
        says("each CANDIDATE has a WORTH (-1000 .. 1000; 0 at first).");
        WhyNots x = Build.of(2, 2);
        due("at first", x.worth(1, 1, 1000), 0);
        due("then", x.worth(1, 1, -1000), 1000);
        due("beyond", x.worth(1, 1, 1001), OUTSIDE);
        due("beyond", x.worth(1, 1, -1001), OUTSIDE);
        says("A PLAN takes one CANDIDATE for each CHOICE.");
        for (Example example : EXAMPLES) {
            due(example.name + ", plans", example.make.get().count(2), plansOf(example).size());
        }
        says("PLANS stand in ORDER: by what they take for CHOICE 0, of like ones by that for CHOICE 1, and so on, "
                + "the lesser number first.");
        // Each best plan in turn is ruled out by a rule that only it and those before it break.
        WhyNots y = Build.of(2, 2);
        int[] first = {0, 0, 1, 1};
        int[] second = {0, 1, 0, 1};
        int[][] rows = {{7, 1, 0, 1}, {3, 1, 0, 0}, {7, 1, 0, 2}};
        for (int i = 0; i < 4; i++) {
            due("plan " + i + ", choice 0", y.pick(0), first[i]);
            due("plan " + i + ", choice 1", y.pick(1), second[i]);
            if (i < 3) {
                y.rule(rows[i][0], rows[i][1], rows[i][2], rows[i][3], 1);
            }
        }
        says("(Without CHOICES there is one PLAN.)");
        due("count(2)", new WhyNots().count(2), 1);
        due("it stands", new WhyNots().count(3), 1);
    }

    private static void rules() {
        says("======== 2 RULES 0, 1, .. (12 at most) have a KIND, numbers a, b, n,");
        WhyNots x = Build.of(2, 2);
        for (int r = 0; r < 12; r++) {
            due("rule", x.rule(r % 9, 0, 1, 2, 1 + 90 * r), r);
        }
        due("a thirteenth", x.rule(0, 0, 1, 2, 1), ROOM);
        int[] numbers = {5, 0, 1, 2};
        for (int what = 0; what < 4; what++) {
            due("told(5, " + what + ")", x.told(5, what), numbers[what]);
        }
        says("a WEIGHT (1 .. 1000)");
        due("its weight", x.told(11, 4), 991);
        due("below", x.weigh(11, 0), OUTSIDE);
        due("the least", x.weigh(11, 1), 991);
        due("the greatest", x.weigh(11, 1000), 1);
        due("above", x.weigh(11, 1001), OUTSIDE);
        says("and a MODE: 0 OFF, 1 HARD (at first), 2 SOFT.");
        for (int m : new int[] {0, 2, 1}) {
            due("mode(3, " + m + ")", x.mode(3, m), m == 0 ? 1 : m == 2 ? 0 : 2);
        }
        due("another", x.mode(3, 3), OUTSIDE);
        says("A RULE is kept by a PLAN, else BROKEN, by KINDS (x(c) is what it takes for CHOICE c):");
    }

    /** Of choices with six candidates: the plan of these two keeps the rule, or it breaks it. */
    private static void kept(boolean is, int p, int q, int kind, int a, int b, int n) {
        WhyNots x = Build.of(6, 6);
        due("rule", x.rule(kind, a, b, n, 1), 0);
        due(Call.text("kind", kind, a, b, n) + " by " + p + ", " + q, x.breaks(p, q, 0, 0, 0), is ? 0 : 1);
    }

    /** The least and the most are taken, what is beyond them is OUTSIDE. */
    private static void n(int kind, int least, int most) {
        due("the least of kind " + kind, Build.of(6, 6).rule(kind, 0, 1, least, 1), 0);
        due("the most of kind " + kind, Build.of(6, 6).rule(kind, 0, 1, most, 1), 0);
        due("below it, kind " + kind, Build.of(6, 6).rule(kind, 0, 1, least - 1, 1), OUTSIDE);
        due("above it, kind " + kind, Build.of(6, 6).rule(kind, 0, 1, most + 1, 1), OUTSIDE);
    }

    private static void kinds() {
        says("0: x(a) is one of n (0 .. 63: bit k, 2 to the power of k, for CANDIDATE k).");
        n(0, 0, 63);
        kept(true, 0, 3, 0, 1, 0, 8);
        kept(false, 3, 0, 0, 1, 0, 8);
        kept(true, 5, 0, 0, 0, 0, 33);
        says("1: x(a) is not x(b).");
        kept(true, 2, 3, 1, 0, 1, 0);
        kept(false, 3, 3, 1, 0, 1, 0);
        says("2: x(a) is x(b).");
        kept(false, 2, 3, 2, 1, 0, 0);
        kept(true, 3, 3, 2, 1, 0, 0);
        says("3: x(b) is x(a) + n or more (n -5 .. 5).");
        n(3, -5, 5);
        kept(true, 1, 3, 3, 0, 1, 2);
        kept(true, 1, 4, 3, 0, 1, 2);
        kept(false, 1, 2, 3, 0, 1, 2);
        kept(true, 4, 1, 3, 0, 1, -3);
        kept(false, 4, 0, 3, 0, 1, -3);
        kept(true, 3, 1, 3, 1, 0, 2);
        says("4: x(a) and x(b) are n (0 .. 5) apart at most.");
        n(4, 0, 5);
        kept(true, 1, 3, 4, 0, 1, 2);
        kept(true, 3, 1, 4, 0, 1, 2);
        kept(false, 1, 4, 4, 0, 1, 2);
        kept(false, 4, 1, 4, 0, 1, 2);
        says("5: x(a) is not n / 8 (cut), or x(b) is n modulo 8 (n 0 .. 63).");
        n(5, 0, 63);
        kept(true, 2, 3, 5, 0, 1, 19);
        kept(false, 2, 4, 5, 0, 1, 19);
        kept(true, 3, 4, 5, 0, 1, 19);
        kept(true, 3, 2, 5, 1, 0, 19);
        kept(false, 4, 2, 5, 1, 0, 19);
        says("6: at most n (0 .. 5) CHOICES take CANDIDATE a (0 .. 5).");
        n(6, 0, 5);
        kept(true, 4, 3, 6, 4, 0, 1);
        kept(false, 4, 4, 6, 4, 0, 1);
        says("7: at least so many.");
        n(7, 0, 5);
        kept(true, 4, 3, 7, 4, 0, 1);
        kept(false, 2, 3, 7, 4, 0, 1);
        says("8: all that it takes, together, is a .. b (0 .. 25, a at most b).");
        kept(false, 1, 1, 8, 3, 5, 0);
        kept(true, 2, 1, 8, 3, 5, 0);
        kept(true, 0, 5, 8, 3, 5, 0);
        kept(false, 1, 5, 8, 3, 5, 0);
        due("a is b", new WhyNots().rule(8, 25, 25, 0, 1), 0);
        due("a above b", new WhyNots().rule(8, 3, 2, 0, 1), OUTSIDE);
        due("b above 25", new WhyNots().rule(8, 3, 26, 0, 1), OUTSIDE);
        due("a below 0", new WhyNots().rule(8, -1, 2, 0, 1), OUTSIDE);
        says("In 1 to 5 a and b are different CHOICES;");
        for (int kind = 1; kind <= 5; kind++) {
            due("kind " + kind, Build.of(2, 2).rule(kind, 1, 1, 0, 1), OUTSIDE);
        }
        says("in 0 b, in 6 and 7 b, in 1, 2, 8 n is not looked at.");
        for (int kind : new int[] {0, 6, 7}) {
            due("b of kind " + kind, Build.of(2, 2).rule(kind, 0, -77, 1, 1), 0);
        }
        for (int kind : new int[] {1, 2, 8}) {
            due("n of kind " + kind, Build.of(2, 2).rule(kind, 0, 1, -77, 1), 0);
        }
        says("A CHOICE that comes later counts in 6, 7, 8, too.");
        WhyNots x = Build.of(2);
        x.rule(6, 1, 0, 1, 1);
        x.rule(7, 1, 0, 2, 1);
        x.rule(8, 2, 2, 0, 1);
        due("before", x.breaks(1, 0, 0, 0, 0), 6);
        x.choice(2);
        due("after", x.breaks(1, 1, 0, 0, 0), 1);
        says("SETS of RULES are numbers: bit k for RULE k.");
        due("rules 1 and 2", x.breaks(0, 0, 0, 0, 0), 2 + 4);
        says("THE COST of a set is its WEIGHTS together.");
        for (Example example : EXAMPLES) {
            WhyNots y = example.make.get();
            for (int set = 0; set < 1 << y.count(1) && set < 64; set++) {
                int sum = 0;
                for (int r = 0; r < 6; r++) {
                    sum += (set >> r & 1) == 1 ? y.told(r, 4) : 0;
                }
                due(example.name + ", cost(" + set + ")", example.make.get().cost(set), sum);
            }
        }
    }

    private static void scoreAndBest() {
        says("======== 3 A PLAN STANDS if it breaks no HARD RULE.");
        for (Example example : EXAMPLES) {
            due(example.name + ", count(3)", example.make.get().count(3), standing(example).size());
        }
        says("Its SCORE is the WORTHS of what it takes, together, less THE COST of the SOFT RULES that it breaks.");
        for (Example example : EXAMPLES) {
            for (int[] plan : plansOf(example)) {
                WhyNots x = example.make.get();
                int sum = -x.cost(breaks(x, plan) & inMode(x, 2));
                for (int c = 0; c < example.sizes.length; c++) {
                    sum += example.make.get().worth(c, plan[c], 0);
                }
                due(example.name + ", " + Call.text("score", plan), score(x, plan), sum);
            }
        }
        says("BEST is, of the PLANS that STAND, the first one in ORDER of those with the greatest SCORE.");
        for (Example example : EXAMPLES) {
            List<int[]> best = greatest(example);
            for (int c = 0; c < example.sizes.length; c++) {
                due(example.name + ", pick(" + c + ")", example.make.get().pick(c), best.isEmpty() ? NO : best.get(0)[c]);
            }
        }
    }

    private static void listed(Example example, List<Integer> want, boolean clashes) {
        for (int i = 0; i <= want.size(); i++) {
            WhyNots x = example.make.get();
            due(example.name + ", the set at " + i, clashes ? x.clashAt(i) : x.relaxAt(i),
                    i < want.size() ? want.get(i) : NO);
        }
        due(example.name + ", how many", example.make.get().count(clashes ? 5 : 6), want.size());
    }

    private static List<Integer> clashesOf(Example example) {
        List<Integer> found = leastSets(example, set -> !someKeeps(example, set));
        found.sort((s, t) -> Integer.bitCount(s) - Integer.bitCount(t) != 0
                ? Integer.bitCount(s) - Integer.bitCount(t) : s - t);
        return found;
    }

    private static List<Integer> relaxationsOf(Example example) {
        WhyNots x = example.make.get();
        int hard = inMode(x, 1);
        List<Integer> found = leastSets(example, set -> someKeeps(example, hard & ~set));
        found.sort((s, t) -> x.cost(s) - x.cost(t) != 0 ? x.cost(s) - x.cost(t) : s - t);
        return found;
    }

    private static void clashesAndRelaxations() {
        says("A CLASH is a set of HARD RULES of which no PLAN keeps all, but of which, without any one of them, "
                + "some PLAN keeps all.");
        says("CLASHES stand by how many RULES they have, of like ones the lesser number first.");
        for (Example example : EXAMPLES) {
            listed(example, clashesOf(example), true);
        }
        holds("the examples have some", crowded().count(5) > 2);
        says("A RELAXATION is a set of HARD RULES such that some PLAN keeps all other HARD ones, but, without any "
                + "one of the set, that is not so (0, if some PLAN STANDS).");
        says("They stand by THE COST, of like ones the lesser number first.");
        for (Example example : EXAMPLES) {
            listed(example, relaxationsOf(example), false);
        }
        holds("the examples have some", crowded().count(6) > 2);
        due("some plan stands", Build.middle().relaxAt(0), 0);
    }

    private static void refusals() {
        says("REFUSALS, of several the first one here:");
        WhyNots full = Build.full();
        due("UNKNOWN, OUTSIDE and ROOM", full.rule(3, 5, 5, 6, 0), UNKNOWN);
        due("OUTSIDE and ROOM", full.rule(3, 4, 4, 6, 0), OUTSIDE);
        due("ROOM", full.rule(3, 4, 3, 5, 1), ROOM);
        due("UNKNOWN and NO", Build.clashing().price(5), UNKNOWN);
        says("UNKNOWN (a number of a CHOICE, CANDIDATE, RULE names nothing),");
        due("a choice", Build.middle().force(2, 0), UNKNOWN);
        due("a candidate", Build.middle().force(1, 2), UNKNOWN);
        due("a rule", Build.middle().price(4), UNKNOWN);
        says("OUTSIDE (a number is not as said),");
        due("a number", Build.middle().count(7), OUTSIDE);
        says("ROOM,");
        due("a choice", full.choice(1), ROOM);
        says("NO (there is none such).");
        due("a plan", Build.clashing().best(), NO);
        due("a clash", Build.middle().clashAt(0), NO);
        says("What is refused changes nothing.");
        List<String> before = Shown.of(Build::full);
        holds("all is shown as before", before.equals(Shown.of(() -> {
            WhyNots x = Build.full();
            x.choice(3);
            x.worth(4, 5, 1001);
            x.rule(1, 0, 1, 0, 5);
            x.mode(11, 3);
            x.weigh(11, 1001);
            return x;
        })));
    }

    // ---- Promises

    private static void changes() {
        promise(1, "A new object", "WhyNots()", "No CHOICES, no RULES.");
        due("choices", new WhyNots().count(0), 0);
        due("rules", new WhyNots().count(1), 0);
        promise(2, "choice", "int choice(int candidates)", "A CHOICE: its number. OUTSIDE, ROOM.");
        due("the third", Build.of(2, 4).choice(5), 2);
        due("OUTSIDE before ROOM", Build.full().choice(0), OUTSIDE);
        promise(3, "worth", "int worth(int choice, int candidate, int w)",
                "WORTH of a CANDIDATE becomes w: what it was. UNKNOWN, OUTSIDE.");
        eachPair((example, c, k) -> {
            WhyNots x = example.make.get();
            int was = x.worth(c, k, 77);
            due(example.name + ", what it becomes", x.worth(c, k, was), 77);
            due(example.name + ", and again", x.worth(c, k, 5), was);
        });
        due("UNKNOWN before OUTSIDE", Build.middle().worth(0, 3, 1001), UNKNOWN);
        promise(4, "rule", "int rule(int kind, int a, int b, int n, int weight)", "A RULE, HARD: its number.");
        for (Example example : EXAMPLES) {
            WhyNots x = example.make.get();
            int next = x.count(1);
            due(example.name, x.rule(6, 0, 0, 0, 3), next);
            due(example.name + ", HARD", x.told(next, 5), 1);
        }
        says("UNKNOWN (a, b, where they are CHOICES, of a KIND that there is),");
        for (int kind = -1; kind <= 9; kind++) {
            due("a of kind " + kind, Build.of(2, 2).rule(kind, 2, 1, 1, 1),
                    kind < 0 || kind >= 8 ? OUTSIDE : kind <= 5 ? UNKNOWN : 0);
            due("b of kind " + kind, Build.of(2, 2).rule(kind, 1, 2, 1, 1),
                    kind < 0 || kind > 8 ? OUTSIDE : kind >= 1 && kind <= 5 ? UNKNOWN : 0);
        }
        due("a of kind 6 is no choice", Build.of(2, 2).rule(6, 6, 0, 0, 1), OUTSIDE);
        due("a of kind 7 is no choice", Build.of(2, 2).rule(7, -1, 0, 0, 1), OUTSIDE);
        due("a of kind 6 need not be there", Build.of(2, 2).rule(6, 5, 0, 0, 1), 0);
        says("OUTSIDE (kind; a, b, n; weight), ROOM.");
        due("kind", Build.full().rule(9, 0, 1, 0, 1), OUTSIDE);
        due("a, b", Build.full().rule(8, 2, 1, 0, 1), OUTSIDE);
        due("n", Build.full().rule(4, 0, 1, 6, 1), OUTSIDE);
        due("weight", Build.full().rule(4, 0, 1, 5, 1001), OUTSIDE);
        due("ROOM", Build.full().rule(4, 0, 1, 5, 1000), ROOM);
        promise(5, "mode", "int mode(int rule, int m)", "A RULE'S MODE: what it was. UNKNOWN, OUTSIDE.");
        due("was SOFT", Build.middle().mode(1, 1), 2);
        due("was OFF", Build.middle().mode(2, 1), 0);
        due("UNKNOWN before OUTSIDE", Build.middle().mode(4, 3), UNKNOWN);
        promise(6, "weigh", "int weigh(int rule, int w)", "A RULE'S WEIGHT: what it was. UNKNOWN, OUTSIDE.");
        due("was 3", Build.middle().weigh(1, 9), 3);
        for (Example example : EXAMPLES) {
            for (int r = 0; r < example.make.get().count(1); r++) {
                WhyNots x = example.make.get();
                int others = (1 << x.count(1)) - 1 - (1 << r);
                int cost = x.cost(others);
                x.weigh(r, 1000);
                due(example.name + ", its cost", x.cost(1 << r), 1000);
                due(example.name + ", that of the others", x.cost(others), cost);
            }
        }
        due("UNKNOWN before OUTSIDE", Build.middle().weigh(4, 0), UNKNOWN);
        promise(7, "told", "int told(int rule, int what)", "Of a RULE: what = 0 KIND, 1 a, 2 b, 3 n (as they were told), "
                + "4 WEIGHT, 5 MODE. UNKNOWN, OUTSIDE.");
        int[] rule3 = {8, 1, 2, 0, 2, 1};
        for (int what = 0; what < 6; what++) {
            due("told(3, " + what + ")", Build.middle().told(3, what), rule3[what]);
        }
        due("UNKNOWN before OUTSIDE", Build.middle().told(4, 6), UNKNOWN);
        promise(8, "count", "int count(int what)", "How many: what = 0 CHOICES, 1 RULES, 2 PLANS, 3 that STAND, "
                + "4 of these with BEST's SCORE, 5 CLASHES, 6 RELAXATIONS. OUTSIDE.");
        for (Example example : EXAMPLES) {
            WhyNots x = example.make.get();
            int[] want = {example.sizes.length, x.count(1), plansOf(example).size(), standing(example).size(),
                greatest(example).size(), clashesOf(example).size(), relaxationsOf(example).size()};
            for (int what = 0; what < 7; what++) {
                due(example.name + ", count(" + what + ")", x.count(what), want[what]);
            }
            due(example.name, x.count(7), OUTSIDE);
            due(example.name, x.count(-1), OUTSIDE);
        }
        due("five rules", Build.clashing().count(1), 5);
    }

    private static void bests() {
        promise(9, "best", "int best()", "SCORE of BEST. NO.");
        for (Example example : EXAMPLES) {
            List<int[]> best = greatest(example);
            due(example.name, example.make.get().best(), best.isEmpty() ? NO : score(example.make.get(), best.get(0)));
        }
        promise(10, "pick", "int pick(int choice)", "What BEST takes for a CHOICE. UNKNOWN, NO.");
        for (Example example : EXAMPLES) {
            WhyNots x = example.make.get();
            int[] p = new int[5];
            for (int c = 0; c < example.sizes.length && x.best() != NO; c++) {
                p[c] = x.pick(c);
            }
            holds(example.name + ", its score is best's", x.best() == NO || score(x, p) == x.best());
            due(example.name, x.pick(example.sizes.length), UNKNOWN);
        }
        promise(11, "fixed", "int fixed(int choice)", "What all PLANS that STAND with BEST's SCORE take for a CHOICE; "
                + "NONE if they are not alike. UNKNOWN, NO.");
        for (Example example : EXAMPLES) {
            for (int c = 0; c < example.sizes.length; c++) {
                TreeSet<Integer> taken = new TreeSet<>();
                for (int[] plan : greatest(example)) {
                    taken.add(plan[c]);
                }
                due(example.name + ", fixed(" + c + ")", example.make.get().fixed(c),
                        taken.isEmpty() ? NO : taken.size() == 1 ? taken.first() : NONE);
            }
            due(example.name, example.make.get().fixed(example.sizes.length), UNKNOWN);
        }
    }

    private static void pairs() {
        promise(12, "force", "int force(int choice, int candidate)",
                "The greatest SCORE of a PLAN that STANDS and takes a CANDIDATE. UNKNOWN, NO.");
        eachPair((example, c, k) -> due(example.name + Call.text(", force", c, k), example.make.get().force(c, k),
                example.but(x -> x.rule(0, c, 0, 1 << k, 1)).best()));
        promise(13, "forced", "int forced(int choice, int candidate, int of)",
                "What the first such PLAN in ORDER, with that SCORE, takes for a CHOICE. UNKNOWN (also of), NO.");
        eachPair((example, c, k) -> {
            for (int of = 0; of <= example.sizes.length; of++) {
                due(example.name + Call.text(", forced", c, k, of), example.make.get().forced(c, k, of),
                        example.but(x -> x.rule(0, c, 0, 1 << k, 1)).pick(of));
            }
        });
        promise(14, "avoid", "int avoid(int choice, int candidate)",
                "The greatest SCORE of a PLAN that STANDS and does not take a CANDIDATE. UNKNOWN, NO.");
        eachPair((example, c, k) -> due(example.name + Call.text(", avoid", c, k), example.make.get().avoid(c, k),
                example.but(x -> x.rule(0, c, 0, 63 - (1 << k), 1)).best()));
        promise(15, "raise", "int raise(int choice, int candidate)",
                "The least number, 0 or more, by which the WORTH of a CANDIDATE would have to be greater "
                + "(also beyond 1000) for BEST to take it. UNKNOWN, NO (nothing that STANDS takes it).");
        eachPair((example, c, k) -> shifted(example, c, k, 1, example.make.get().raise(c, k),
                example.make.get().force(c, k) == NO));
        promise(16, "lower", "int lower(int choice, int candidate)",
                "By which it would have to be less for BEST not to take it. UNKNOWN, NO (none STANDS, or all that "
                + "STAND take it).");
        eachPair((example, c, k) -> shifted(example, c, k, -1, example.make.get().lower(c, k),
                example.make.get().avoid(c, k) == NO));
        promise(17, "needs", "int needs(int choice, int candidate)", "The set of HARD RULES that a PLAN with a "
                + "CANDIDATE breaks, of least COST; of several the least number. UNKNOWN.");
        eachPair((example, c, k) -> due(example.name + Call.text(", needs", c, k), example.make.get().needs(c, k),
                cheapest(example, c, k)));
        for (String name : new String[] {"force", "avoid", "raise", "lower", "needs"}) {
            due(name + " of a choice", Call.on(Build.middle(), name, 2, 0), UNKNOWN);
            due(name + " of a candidate", Call.on(Build.middle(), name, 0, 3), UNKNOWN);
        }
    }

    /** By so much the best takes the candidate, or takes it no more; by one less that is not so. */
    private static void shifted(Example example, int c, int k, int sign, int by, boolean none) {
        String what = example.name + Call.text(sign > 0 ? ", raise" : ", lower", c, k);
        if (none) {
            due(what, by, NO);
            return;
        }
        holds(what + " is 0 or more: " + by, by >= 0);
        WhyNots x = example.make.get();
        int was = x.worth(c, k, 0);
        x.worth(c, k, was + sign * by);
        holds(what + " by " + by + " is enough", (x.pick(c) == k) == (sign > 0));
        if (by > 0) {
            x.worth(c, k, was + sign * (by - 1));
            holds(what + " by one less is not", (x.pick(c) == k) != (sign > 0));
        }
    }

    private static int cheapest(Example example, int c, int k) {
        WhyNots x = example.make.get();
        int least = -1;
        for (int[] plan : plansOf(example)) {
            int set = breaks(x, plan) & inMode(x, 1);
            boolean less = least < 0 || x.cost(set) < x.cost(least) || x.cost(set) == x.cost(least) && set < least;
            if (plan[c] == k && less) {
                least = set;
            }
        }
        return least;
    }

    private static void sets() {
        promise(18, "clash", "int clash()", "One CLASH: of all HARD RULES, one after the other from 0 on, each is left "
                + "out if no PLAN keeps all of the rest; what is left. 0 if some PLAN STANDS.");
        for (Example example : EXAMPLES) {
            WhyNots x = example.make.get();
            int left = x.best() == NO ? inMode(x, 1) : 0;
            for (int r = 0; r < 12; r++) {
                int others = left & ~(1 << r);
                left = left == 0 || someKeeps(example, others) ? left : others;
            }
            due(example.name, x.clash(), left);
            holds(example.name + ", it is one of them", left == 0 || clashesOf(example).contains(left));
        }
        promise(19, "clashAt", "int clashAt(int i)", "The i-th CLASH (0 the first). NO.");
        for (Example example : EXAMPLES) {
            listed(example, clashesOf(example), true);
            due(example.name, example.make.get().clashAt(-1), NO);
        }
        promise(20, "relaxAt", "int relaxAt(int i)", "The i-th RELAXATION. NO.");
        for (Example example : EXAMPLES) {
            listed(example, relaxationsOf(example), false);
            due(example.name, example.make.get().relaxAt(-1), NO);
        }
        promise(21, "cost", "int cost(int set)",
                "THE COST of a set of RULES. UNKNOWN (a bit of a RULE that is not there; below 0).");
        due("rules 0, 2 and 3, of which one is OFF", Build.middle().cost(13), 6 + 8 + 2);
        due("a fifth", Build.middle().cost(16), UNKNOWN);
        due("below 0", Build.middle().cost(-1), UNKNOWN);
        promise(22, "price", "int price(int rule)",
                "How much greater BEST's SCORE would be if a RULE were OFF (0 for one that is).");
        for (Example example : EXAMPLES) {
            int best = example.make.get().best();
            for (int r = 0; r < example.make.get().count(1); r++) {
                int rule = r;
                due(example.name + ", price(" + r + ")", example.make.get().price(r),
                        best == NO ? NO : example.but(x -> x.mode(rule, 0)).best() - best);
            }
        }
        due("one that is OFF", Build.middle().price(2), 0);
        says("UNKNOWN, NO (none STANDS as it is).");
        due("UNKNOWN", Build.middle().price(4), UNKNOWN);
        due("none stands", Build.clashing().price(0), NO);
        due("none stands, of one that is OFF", Build.clashing().price(4), NO);
        due("UNKNOWN before NO", Build.clashing().price(5), UNKNOWN);
    }

    private static void plans() {
        promise(23, "breaks", "int breaks(int a, int b, int c, int d, int e)", "The RULES that a PLAN breaks, HARD or "
                + "SOFT, as a set; it takes a .. e, as many as there are CHOICES (others are not looked at). UNKNOWN.");
        int[][] broken = {{0, 0, 9}, {0, 1, 0}, {1, 0, 2}, {1, 1, 3}, {2, 0, 0}, {2, 1, 8}};
        for (int[] row : broken) {
            due("plan " + row[0] + ", " + row[1], Build.middle().breaks(row[0], row[1], -1, 6, 99), row[2]);
        }
        due("UNKNOWN", Build.middle().breaks(0, 2, 0, 0, 0), UNKNOWN);
        promise(24, "score", "int score(int a, int b, int c, int d, int e)", "Its SCORE. UNKNOWN.");
        int[][] scores = {{0, 0, 9}, {0, 1, 9}, {1, 0, 11}, {1, 1, 11}, {2, 0, -2}, {2, 1, -2}};
        for (int[] row : scores) {
            due("plan " + row[0] + ", " + row[1], Build.middle().score(row[0], row[1], -1, 6, 99), row[2]);
        }
        due("UNKNOWN", Build.middle().score(3, 0, 0, 0, 0), UNKNOWN);
    }

    private static void notPromised() {
        says("## Not promised");
        says("How the state is held inside the object is free, as are the speed of each call, the text of toString and "
                + "the behaviour of equals and hashCode. Use of one object from several threads at once is not promised "
                + "to be safe. Nothing is promised beyond the answers and state changes described above, and nothing "
                + "about an object after its 512th call.");
    }
}

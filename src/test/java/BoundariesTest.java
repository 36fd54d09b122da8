import java.nio.file.Files;
import java.nio.file.Path;
import java.util.function.Supplier;

/**
 * The bounds that the document's terms and promises name, a test for each sentence: the last number
 * that is taken and the first that is refused, on both sides, and the empty and the full object.
 * Each test quotes its sentence, and the quotation is looked for in the document.
 */
public final class BoundariesTest {
    private static final int UNKNOWN = -1000001, OUTSIDE = -1000002, ROOM = -1000003, NO = -1000004, NONE = -1;
    private static final int MIN = Integer.MIN_VALUE, MAX = Integer.MAX_VALUE;
    private static final Check check = new Check();
    private static String document;
    private static String sentence = "";

    private interface Ask {
        int of(WhyNots x, int number);
    }

    public static void main(String[] args) throws Exception {
        Path file = Path.of("../shared/DOC.md");
        document = Files.exists(file) ? plain(Files.readString(file)) : null;
        terms();
        kinds();
        changes();
        questions();
        sets();
        wholeObjects();
        check.end();
    }

    private static void terms() {
        atMostFiveChoices();
        oneToSixCandidates();
        choiceNumbers();
        candidateNumbers();
        worthBounds();
        worthIsZeroAtFirst();
        orderOfPlans();
        aCandidateForEachChoice();
        onePlanWithoutChoices();
        atMostTwelveRules();
        ruleNumbers();
        weightBounds();
        modeBounds();
        hardAtFirst();
    }

    private static void kinds() {
        kindNumbers();
        kind0();
        kind1And2();
        kind3();
        kind4();
        kind5();
        kind6();
        kind7();
        kind8();
        differentChoices();
        notLookedAt();
        laterChoicesCount();
    }

    private static void changes() {
        worthAnswersWhatItWas();
        modeAnswersWhatItWas();
        weighAnswersWhatItWas();
        toldBounds();
        toldAsTheyWereTold();
        countBounds();
    }

    private static void questions() {
        scoreBounds();
        firstOfTheGreatest();
        bestOfNone();
        fixedAlikeOrNot();
        forcedTakesTheFirst();
        avoidNone();
        raiseIsZeroOrMore();
        raiseBeyondThousand();
        raiseNothing();
        lowerBounds();
        lowerNone();
        needsLeast();
        priceOfOff();
        priceBounds();
        breaksLooksAtSoMany();
        scoreLooksAtSoMany();
    }

    private static void sets() {
        costBounds();
        clashIsZero();
        clashOfOneAndOfTwelve();
        clashAtBounds();
        clashesByHowMany();
        relaxationZero();
        relaxAtBounds();
        relaxationsByCost();
        manyOfBoth();
    }

    private static void wholeObjects() {
        theEmptyObject();
        onlyChoices();
        onlyRules();
        theFullObject();
        aNewObjectIsItsOwn();
        the512thCall();
    }

    private static String plain(String text) {
        return text.replaceAll("\\s+", " ");
    }

    /** What is due from here on is due by these words of the document. */
    private static void by(String words) {
        sentence = words;
        // The bounds can be tested where the document is not at hand; only its words cannot be compared.
        check.holds("the document says: " + words, document == null || document.contains(plain(words)));
    }

    private static void due(String call, int got, int want) {
        check.due("'" + sentence + "': " + call, got, want);
    }

    /** Asks a new object each time: least and most are taken, what is beyond them is refused. */
    private static void bounds(String what, Supplier<WhyNots> make, Ask ask, int least, int most, int refusal) {
        for (int taken : new int[] {least, most}) {
            int answer = ask.of(make.get(), taken);
            check.holds("'" + sentence + "': " + what + " " + taken + " is taken, not " + answer, answer > UNKNOWN);
        }
        // The far ones would fall between least and most if something cut them to fewer bits.
        int[] wrong = {least - 1, most + 1, least - 32, most + 32, least - 256, most + 256, least - 65536,
            most + 65536, MIN, MIN + most, MAX};
        for (int number : wrong) {
            due(what + " " + number, ask.of(make.get(), number), refusal);
        }
    }

    private static WhyNots of(int... candidates) {
        return Build.of(candidates);
    }

    private static void standing(WhyNots x, int plans) {
        due("plans that stand", x.count(3), plans);
    }

    private static WhyNots withRule(WhyNots x, int kind, int a, int b, int n) {
        due("rule(" + kind + ", " + a + ", " + b + ", " + n + ", 1)", x.rule(kind, a, b, n, 1), 0);
        return x;
    }

    private static WhyNots twelve() {
        WhyNots x = of(3, 2);
        for (int r = 0; r < 12; r++) {
            x.rule(8, 0, 25, 0, 1);
        }
        return x;
    }

    // ---- Terms, 1

    private static void atMostFiveChoices() {
        by("(5 at most) have CANDIDATES 0, 1, .. (1 .. 6)");
        WhyNots x = new WhyNots();
        for (int c = 0; c < 5; c++) {
            due("choice " + c, x.choice(6), c);
        }
        due("a sixth", x.choice(6), ROOM);
        due("a sixth with one candidate", x.choice(1), ROOM);
        due("count(0)", x.count(0), 5);
        due("count(2)", x.count(2), 7776);
    }

    private static void oneToSixCandidates() {
        by("CANDIDATES 0, 1, .. (1 .. 6)");
        bounds("choice, empty", WhyNots::new, WhyNots::choice, 1, 6, OUTSIDE);
        bounds("choice, the last one", () -> of(6, 6, 6, 6), WhyNots::choice, 1, 6, OUTSIDE);
        for (int many = 1; many <= 6; many++) {
            due("plans of " + many, of(many).count(2), many);
            due("plans of " + many + ", twice", of(many, many).count(2), many * many);
        }
    }

    private static void choiceNumbers() {
        by("UNKNOWN (a number of a CHOICE, CANDIDATE, RULE names nothing)");
        for (int many = 1; many <= 5; many++) {
            int[] sizes = new int[many];
            java.util.Arrays.fill(sizes, 2);
            Supplier<WhyNots> make = () -> of(sizes);
            int last = many - 1;
            bounds("worth", make, (x, c) -> x.worth(c, 0, 1), 0, last, UNKNOWN);
            bounds("rule 0, a", make, (x, c) -> x.rule(0, c, 0, 1, 1), 0, last, UNKNOWN);
            bounds("pick", make, WhyNots::pick, 0, last, UNKNOWN);
            bounds("fixed", make, WhyNots::fixed, 0, last, UNKNOWN);
            bounds("force", make, (x, c) -> x.force(c, 0), 0, last, UNKNOWN);
            bounds("forced", make, (x, c) -> x.forced(c, 0, 0), 0, last, UNKNOWN);
            bounds("forced, of", make, (x, c) -> x.forced(0, 0, c), 0, last, UNKNOWN);
            bounds("avoid", make, (x, c) -> x.avoid(c, 0), 0, last, UNKNOWN);
            bounds("raise", make, (x, c) -> x.raise(c, 0), 0, last, UNKNOWN);
            bounds("lower", make, (x, c) -> x.lower(c, 0), 0, last, UNKNOWN);
            bounds("needs", make, (x, c) -> x.needs(c, 0), 0, last, UNKNOWN);
        }
        for (int kind = 1; kind <= 5; kind++) {
            int of = kind;
            // The choice in the middle is the other one, so that the first and the last are different from it.
            bounds("rule " + kind + ", a", () -> of(2, 2, 2), (x, c) -> x.rule(of, c, 1, 0, 1), 0, 2, UNKNOWN);
            bounds("rule " + kind + ", b", () -> of(2, 2, 2), (x, c) -> x.rule(of, 1, c, 0, 1), 0, 2, UNKNOWN);
        }
    }

    private static void candidateNumbers() {
        by("UNKNOWN (a number of a CHOICE, CANDIDATE, RULE names nothing)");
        for (int many = 1; many <= 6; many++) {
            int size = many;
            int last = many - 1;
            // Choice 0 has more and choice 2 has fewer candidates, where that can be: neither bound is choice 1's.
            Supplier<WhyNots> make = () -> of(6, size, 1);
            Supplier<WhyNots> other = () -> of(1, size, 6);
            for (Supplier<WhyNots> one : java.util.List.of(make, other)) {
                bounds("worth", one, (x, k) -> x.worth(1, k, 1), 0, last, UNKNOWN);
                bounds("force", one, (x, k) -> x.force(1, k), 0, last, UNKNOWN);
                bounds("forced", one, (x, k) -> x.forced(1, k, 0), 0, last, UNKNOWN);
                bounds("raise", one, (x, k) -> x.raise(1, k), 0, last, UNKNOWN);
                bounds("needs", one, (x, k) -> x.needs(1, k), 0, last, UNKNOWN);
                bounds("breaks", one, (x, k) -> x.breaks(0, k, 0, 0, 0), 0, last, UNKNOWN);
                bounds("score", one, (x, k) -> x.score(0, k, 0, 0, 0), 0, last, UNKNOWN);
                if (many > 1) {
                    bounds("avoid", one, (x, k) -> x.avoid(1, k), 0, last, UNKNOWN);
                    bounds("lower", one, (x, k) -> x.lower(1, k), 0, last, UNKNOWN);
                } else {
                    due("avoid of the only candidate", one.get().avoid(1, 0), NO);
                    due("avoid behind it", one.get().avoid(1, 1), UNKNOWN);
                    due("lower of the only candidate", one.get().lower(1, 0), NO);
                    due("lower behind it", one.get().lower(1, 1), UNKNOWN);
                }
            }
        }
    }

    private static void worthBounds() {
        by("each CANDIDATE has a WORTH (-1000 .. 1000; 0 at first)");
        bounds("worth", () -> of(2), (x, w) -> x.worth(0, 1, w), -1000, 1000, OUTSIDE);
        for (int w : new int[] {-1000, -999, 999, 1000}) {
            WhyNots x = of(1);
            due("worth(0, 0, " + w + ")", x.worth(0, 0, w), 0);
            due("best() then", x.best(), w);
            due("what it was", x.worth(0, 0, 0), w);
        }
    }

    private static void worthIsZeroAtFirst() {
        by("each CANDIDATE has a WORTH (-1000 .. 1000; 0 at first)");
        WhyNots x = of(6, 1, 6, 2, 6);
        int[] sizes = {6, 1, 6, 2, 6};
        due("best()", x.best(), 0);
        due("all plans are alike", x.count(4), x.count(2));
        for (int c = 0; c < 5; c++) {
            for (int k = 0; k < sizes[c]; k++) {
                due("worth of " + k + " of choice " + c, x.worth(c, k, 17), 0);
            }
        }
        WhyNots y = of(2);
        y.worth(0, 0, 50);
        y.choice(2);
        due("of a later choice", y.worth(1, 0, 3), 0);
        due("of a later choice", y.worth(1, 1, 3), 0);
    }

    private static void orderOfPlans() {
        by("by what they take for CHOICE 0, of like ones by that for CHOICE 1, and so on, the lesser number first");
        WhyNots x = of(2, 3, 2, 2, 2);
        x.rule(8, 1, 1, 0, 1);
        due("the least last: 0 0 0 0 1, choice 4", x.pick(4), 1);
        due("the least last: 0 0 0 0 1, choice 0", x.pick(0), 0);
        x.rule(0, 4, 0, 1, 1);
        due("0 0 0 1 0", x.pick(3), 1);
        x.rule(0, 3, 0, 1, 1);
        due("0 0 1 0 0", x.pick(2), 1);
        x.rule(0, 2, 0, 1, 1);
        due("0 1 0 0 0", x.pick(1), 1);
        x.rule(0, 1, 0, 1, 1);
        due("1 0 0 0 0", x.pick(0), 1);
        x.rule(0, 0, 0, 1, 1);
        due("none", x.pick(0), NO);
    }

    private static void aCandidateForEachChoice() {
        by("A PLAN takes one CANDIDATE for each CHOICE.");
        WhyNots x = new WhyNots();
        int sum = 0;
        int least = 0;
        for (int c = 0; c < 5; c++) {
            x.choice(6);
            due("a later choice adds nothing", x.score(5, 5, 5, 5, 5), sum);
            x.worth(c, 5, 1 << c);
            x.worth(c, 0, -(1 << c));
            sum += 1 << c;
            least -= 1 << c;
            due("the last plan of " + (c + 1), x.score(5, 5, 5, 5, 5), sum);
            due("the first plan of " + (c + 1), x.score(0, 0, 0, 0, 0), least);
            due("best()", x.best(), sum);
        }
        due("one of each", x.score(0, 5, 1, 5, 0), -1 + 2 + 8 - 16);
    }

    private static void onePlanWithoutChoices() {
        by("(Without CHOICES there is one PLAN.)");
        WhyNots x = new WhyNots();
        due("count(2)", x.count(2), 1);
        due("count(3)", x.count(3), 1);
        due("count(4)", x.count(4), 1);
        due("best()", x.best(), 0);
        due("score", x.score(MIN, MAX, -1, 6, 9), 0);
        due("breaks", x.breaks(MIN, MAX, -1, 6, 9), 0);
        x.rule(7, 0, 0, 1, 30);
        due("it stands no more", x.count(3), 0);
        due("best()", x.best(), NO);
        x.mode(0, 2);
        due("it stands at a cost", x.best(), -30);
        due("count(4)", x.count(4), 1);
    }

    // ---- Terms, 2

    private static void atMostTwelveRules() {
        by("RULES 0, 1, .. (12 at most) have a KIND, numbers a, b, n, a WEIGHT (1 .. 1000) and a MODE: 0 OFF, 1 HARD (at first), 2 SOFT.");
        WhyNots x = of(2, 2);
        for (int r = 0; r < 12; r++) {
            due("rule " + r, x.rule(r % 9, 0, 1, 1, 1), r);
        }
        for (int kind = 0; kind <= 8; kind++) {
            due("a thirteenth of kind " + kind, x.rule(kind, 0, 1, 1, 1), ROOM);
        }
        for (int r = 0; r < 12; r++) {
            x.mode(r, 0);
        }
        due("though all are OFF", x.rule(6, 0, 0, 1, 1), ROOM);
        due("count(1)", x.count(1), 12);
    }

    private static void ruleNumbers() {
        by("UNKNOWN (a number of a CHOICE, CANDIDATE, RULE names nothing)");
        Supplier<WhyNots> one = () -> withRule(of(3, 2), 8, 0, 25, 0);
        for (int last : new int[] {0, 11}) {
            Supplier<WhyNots> make = last == 0 ? one : BoundariesTest::twelve;
            bounds("mode", make, (x, r) -> x.mode(r, 2), 0, last, UNKNOWN);
            bounds("weigh", make, (x, r) -> x.weigh(r, 5), 0, last, UNKNOWN);
            bounds("told", make, (x, r) -> x.told(r, 4), 0, last, UNKNOWN);
            bounds("price", make, WhyNots::price, 0, last, UNKNOWN);
        }
    }

    private static void weightBounds() {
        by("a WEIGHT (1 .. 1000)");
        for (int kind = 0; kind <= 8; kind++) {
            int of = kind;
            bounds("weight of kind " + kind, () -> of(2, 2), (x, w) -> x.rule(of, 0, 1, 0, w), 1, 1000, OUTSIDE);
        }
        bounds("weigh", BoundariesTest::twelve, (x, w) -> x.weigh(11, w), 1, 1000, OUTSIDE);
        for (int w : new int[] {1, 2, 999, 1000}) {
            WhyNots x = of(1);
            x.rule(7, 5, 0, 1, w);
            x.mode(0, 2);
            due("a cost of " + w, x.best(), -w);
            due("told", x.told(0, 4), w);
        }
    }

    private static void modeBounds() {
        by("a MODE: 0 OFF, 1 HARD (at first), 2 SOFT");
        bounds("mode", BoundariesTest::twelve, (x, m) -> x.mode(11, m), 0, 2, OUTSIDE);
        WhyNots x = of(1);
        x.rule(7, 5, 0, 1, 9);
        due("HARD", x.best(), NO);
        x.mode(0, 0);
        due("OFF", x.best(), 0);
        x.mode(0, 2);
        due("SOFT", x.best(), -9);
        x.mode(0, 1);
        due("HARD again", x.best(), NO);
    }

    private static void hardAtFirst() {
        by("1 HARD (at first)");
        WhyNots x = of(2, 2);
        for (int r = 0; r < 12; r++) {
            x.rule(r % 9, 0, 1, 0, 1);
            due("told(" + r + ", 5)", x.told(r, 5), 1);
        }
        for (int r = 0; r < 12; r++) {
            due("mode(" + r + ", 0)", x.mode(r, 0), 1);
        }
    }

    // ---- Terms, 2: the kinds

    private static void kindNumbers() {
        by("OUTSIDE (kind; a, b, n; weight)");
        bounds("kind", () -> of(2, 2), (x, k) -> x.rule(k, 0, 1, 0, 1), 0, 8, OUTSIDE);
        for (int kind : new int[] {-1, 9, MIN, MAX}) {
            due("kind " + kind + ", where a and b are no choices", of(2, 2).rule(kind, 2, 7, 0, 1), OUTSIDE);
        }
        for (int kind = 0; kind <= 8; kind++) {
            due("kind " + kind + ", where a and b are no choices", of(2, 2).rule(kind, 2, 7, 0, 1),
                    kind <= 5 ? UNKNOWN : 0);
        }
    }

    private static void kind0() {
        by("0: x(a) is one of n (0 .. 63: bit k, 2 to the power of k, for CANDIDATE k).");
        bounds("n", () -> of(6), (x, n) -> x.rule(0, 0, 0, n, 1), 0, 63, OUTSIDE);
        standing(withRule(of(6), 0, 0, 0, 0), 0);
        standing(withRule(of(6), 0, 0, 0, 63), 6);
        due("only 0", withRule(of(6), 0, 0, 0, 1).fixed(0), 0);
        due("only 5", withRule(of(6), 0, 0, 0, 32).fixed(0), 5);
        standing(withRule(of(6), 0, 0, 0, 31), 5);
        // Bits of candidates that are not there are told all the same.
        standing(withRule(of(2), 0, 0, 0, 60), 0);
        standing(withRule(of(2), 0, 0, 0, 63), 2);
        due("the last choice", withRule(of(6, 6, 6, 6, 6), 0, 4, 0, 32).fixed(4), 5);
    }

    private static void kind1And2() {
        by("1: x(a) is not x(b). 2: x(a) is x(b).");
        standing(withRule(of(6, 6), 1, 0, 1, 0), 30);
        standing(withRule(of(6, 6), 2, 0, 1, 0), 6);
        standing(withRule(of(1, 1), 1, 0, 1, 0), 0);
        standing(withRule(of(1, 1), 2, 0, 1, 0), 1);
        standing(withRule(of(1, 6), 2, 1, 0, 0), 1);
        due("5 and 5", withRule(of(6, 1, 6), 2, 0, 2, 0).breaks(5, 0, 5, 0, 0), 0);
        due("5 and 4", withRule(of(6, 1, 6), 2, 0, 2, 0).breaks(5, 0, 4, 0, 0), 1);
    }

    private static void kind3() {
        by("3: x(b) is x(a) + n or more (n -5 .. 5).");
        bounds("n", () -> of(6, 6), (x, n) -> x.rule(3, 0, 1, n, 1), -5, 5, OUTSIDE);
        standing(withRule(of(6, 6), 3, 0, 1, -5), 36);
        WhyNots less = withRule(of(6, 6), 3, 0, 1, -4);
        standing(less, 35);
        due("5 and 0", less.breaks(5, 0, 0, 0, 0), 1);
        due("5 and 1", less.breaks(5, 1, 0, 0, 0), 0);
        WhyNots like = withRule(of(6, 6), 3, 0, 1, 0);
        due("3 and 3", like.breaks(3, 3, 0, 0, 0), 0);
        due("3 and 2", like.breaks(3, 2, 0, 0, 0), 1);
        WhyNots most = withRule(of(6, 6), 3, 0, 1, 5);
        standing(most, 1);
        due("0 and 5", most.breaks(0, 5, 0, 0, 0), 0);
        due("5 and 0, told the other way", withRule(of(6, 6), 3, 1, 0, 5).breaks(5, 0, 0, 0, 0), 0);
        standing(withRule(of(6, 5), 3, 0, 1, 5), 0);
    }

    private static void kind4() {
        by("4: x(a) and x(b) are n (0 .. 5) apart at most.");
        bounds("n", () -> of(6, 6), (x, n) -> x.rule(4, 0, 1, n, 1), 0, 5, OUTSIDE);
        standing(withRule(of(6, 6), 4, 0, 1, 0), 6);
        standing(withRule(of(6, 6), 4, 0, 1, 5), 36);
        WhyNots x = withRule(of(6, 6), 4, 1, 0, 4);
        standing(x, 34);
        due("0 and 5", x.breaks(0, 5, 0, 0, 0), 1);
        due("5 and 0", x.breaks(5, 0, 0, 0, 0), 1);
        due("5 and 1", x.breaks(5, 1, 0, 0, 0), 0);
        due("0 and 4", x.breaks(0, 4, 0, 0, 0), 0);
    }

    private static void kind5() {
        by("5: x(a) is not n / 8 (cut), or x(b) is n modulo 8 (n 0 .. 63).");
        bounds("n", () -> of(6, 6), (x, n) -> x.rule(5, 0, 1, n, 1), 0, 63, OUTSIDE);
        int[][] rows = {{0, 31}, {5, 31}, {6, 30}, {7, 30}, {8, 31}, {40, 31}, {45, 31}, {46, 30}, {47, 30},
            {48, 36}, {55, 36}, {56, 36}, {63, 36}};
        for (int[] row : rows) {
            standing(withRule(of(6, 6), 5, 0, 1, row[0]), row[1]);
        }
        WhyNots cut = withRule(of(6, 6), 5, 0, 1, 15);
        due("1 and anything", cut.breaks(1, 5, 0, 0, 0), 1);
        due("2 and anything", cut.breaks(2, 5, 0, 0, 0), 0);
        WhyNots last = withRule(of(6, 6), 5, 1, 0, 45);
        due("5 and 5", last.breaks(5, 5, 0, 0, 0), 0);
        due("4 and 5", last.breaks(4, 5, 0, 0, 0), 1);
        due("5 and 4", last.breaks(5, 4, 0, 0, 0), 0);
    }

    private static void kind6() {
        by("6: at most n (0 .. 5) CHOICES take CANDIDATE a (0 .. 5).");
        bounds("n", () -> of(2), (x, n) -> x.rule(6, 0, 0, n, 1), 0, 5, OUTSIDE);
        bounds("a", () -> of(2), (x, a) -> x.rule(6, a, 0, 0, 1), 0, 5, OUTSIDE);
        bounds("a, without choices", WhyNots::new, (x, a) -> x.rule(6, a, 0, 0, 1), 0, 5, OUTSIDE);
        for (int a : new int[] {0, 5}) {
            standing(withRule(of(6, 6, 6, 6, 6), 6, a, 0, 0), 3125);
            standing(withRule(of(6, 6, 6, 6, 6), 6, a, 0, 4), 7775);
            standing(withRule(of(6, 6, 6, 6, 6), 6, a, 0, 5), 7776);
        }
        standing(withRule(of(2, 2), 6, 5, 0, 0), 4);
        standing(withRule(of(1), 6, 0, 0, 0), 0);
    }

    private static void kind7() {
        by("7: at least so many.");
        bounds("n", () -> of(2), (x, n) -> x.rule(7, 0, 0, n, 1), 0, 5, OUTSIDE);
        bounds("a", () -> of(2), (x, a) -> x.rule(7, a, 0, 0, 1), 0, 5, OUTSIDE);
        bounds("a, without choices", WhyNots::new, (x, a) -> x.rule(7, a, 0, 0, 1), 0, 5, OUTSIDE);
        for (int a : new int[] {0, 5}) {
            standing(withRule(of(6, 6, 6, 6, 6), 7, a, 0, 0), 7776);
            standing(withRule(of(6, 6, 6, 6, 6), 7, a, 0, 1), 4651);
            standing(withRule(of(6, 6, 6, 6, 6), 7, a, 0, 5), 1);
        }
        standing(withRule(of(6, 6, 6, 6), 7, 0, 0, 5), 0);
        standing(withRule(of(2, 2), 7, 5, 0, 1), 0);
    }

    private static void kind8() {
        by("8: all that it takes, together, is a .. b (0 .. 25, a at most b).");
        bounds("a", () -> of(2), (x, a) -> x.rule(8, a, 25, 0, 1), 0, 25, OUTSIDE);
        bounds("b", () -> of(2), (x, b) -> x.rule(8, 0, b, 0, 1), 0, 25, OUTSIDE);
        for (int both = 0; both <= 25; both++) {
            due("a is b", of(2).rule(8, both, both, 0, 1), 0);
            due("a is one more", of(2).rule(8, both + 1, both, 0, 1), OUTSIDE);
        }
        int[][] rows = {{0, 25, 7776}, {0, 0, 1}, {25, 25, 1}, {0, 24, 7775}, {1, 25, 7775}, {24, 25, 6}, {0, 1, 6}};
        for (int[] row : rows) {
            standing(withRule(of(6, 6, 6, 6, 6), 8, row[0], row[1], 0), row[2]);
        }
        standing(withRule(of(6, 6, 6, 6), 8, 21, 25, 0), 0);
        standing(withRule(new WhyNots(), 8, 0, 0, 0), 1);
        standing(withRule(new WhyNots(), 8, 1, 25, 0), 0);
    }

    private static void differentChoices() {
        by("In 1 to 5 a and b are different CHOICES");
        for (int kind = 1; kind <= 5; kind++) {
            for (int c = 0; c < 5; c++) {
                due("kind " + kind + ", " + c + " twice", of(2, 2, 2, 2, 2).rule(kind, c, c, 0, 1), OUTSIDE);
            }
            due("kind " + kind + ", the only choice twice", of(2).rule(kind, 0, 0, 0, 1), OUTSIDE);
            due("kind " + kind + ", 3 and 4", of(2, 2, 2, 2, 2).rule(kind, 3, 4, 0, 1), 0);
            due("kind " + kind + ", 4 and 0", of(2, 2, 2, 2, 2).rule(kind, 4, 0, 0, 1), 0);
        }
        due("kind 0, like", of(2).rule(0, 0, 0, 1, 1), 0);
        due("kind 6, like", of(2).rule(6, 0, 0, 1, 1), 0);
        due("kind 8, like", of(2).rule(8, 1, 1, 0, 1), 0);
    }

    private static void notLookedAt() {
        by("in 0 b, in 6 and 7 b, in 1, 2, 8 n is not looked at.");
        for (int any : new int[] {-1, 0, 1, 2, 5, 6, 64, MIN, MAX}) {
            due("kind 0, b " + any, withRule(of(3, 3), 0, 1, any, 2).pick(1), 1);
            standing(withRule(of(3, 3), 6, 2, any, 0), 4);
            standing(withRule(of(3, 3), 7, 2, any, 2), 1);
            standing(withRule(of(3, 3), 1, 0, 1, any), 6);
            standing(withRule(of(3, 3), 2, 0, 1, any), 3);
            standing(withRule(of(3, 3), 8, 4, 4, any), 1);
        }
    }

    private static void laterChoicesCount() {
        by("A CHOICE that comes later counts in 6, 7, 8, too.");
        WhyNots most = withRule(of(1), 6, 0, 0, 1);
        standing(most, 1);
        due("clash()", most.clash(), 0);
        most.choice(1);
        standing(most, 0);
        due("clash() then", most.clash(), 1);
        WhyNots least = withRule(of(1, 1, 1, 1), 7, 0, 0, 5);
        standing(least, 0);
        least.choice(1);
        standing(least, 1);
        WhyNots sum = withRule(of(6, 6, 6, 6), 8, 25, 25, 0);
        standing(sum, 0);
        due("clashAt(0)", sum.clashAt(0), 1);
        sum.choice(6);
        standing(sum, 1);
        due("clashAt(0)", sum.clashAt(0), NO);
        due("pick(4)", sum.pick(4), 5);
        WhyNots before = withRule(new WhyNots(), 8, 1, 1, 0);
        standing(before, 0);
        before.choice(1);
        standing(before, 0);
        before.choice(2);
        standing(before, 1);
        // The others speak of their own choices alone.
        WhyNots other = withRule(of(3, 3), 1, 0, 1, 0);
        other.choice(3);
        standing(other, 18);
    }

    // ---- Promises 3 to 8

    private static void worthAnswersWhatItWas() {
        by("WORTH of a CANDIDATE becomes w: what it was.");
        WhyNots x = of(6, 6, 6, 6, 6);
        due("the first", x.worth(0, 0, -1000), 0);
        due("the last", x.worth(4, 5, 1000), 0);
        due("the first again", x.worth(0, 0, 1000), -1000);
        due("the last again", x.worth(4, 5, -1000), 1000);
        due("refused", x.worth(4, 5, 1001), OUTSIDE);
        due("as it was", x.worth(4, 5, 0), -1000);
        due("like it is", x.worth(4, 5, 0), 0);
    }

    private static void modeAnswersWhatItWas() {
        by("A RULE'S MODE: what it was.");
        WhyNots x = twelve();
        int was = 1;
        for (int m : new int[] {0, 0, 1, 1, 2, 2, 0, 2, 1, 0}) {
            due("mode(11, " + m + ")", x.mode(11, m), was);
            due("refused", x.mode(11, 3), OUTSIDE);
            was = m;
        }
        due("the first is as it was", x.mode(0, 2), 1);
    }

    private static void weighAnswersWhatItWas() {
        by("A RULE'S WEIGHT: what it was.");
        WhyNots x = twelve();
        int was = 1;
        for (int w : new int[] {1000, 1000, 1, 1, 500}) {
            due("weigh(11, " + w + ")", x.weigh(11, w), was);
            due("refused", x.weigh(11, 1001), OUTSIDE);
            was = w;
        }
        due("the first is as it was", x.weigh(0, 2), 1);
        x.mode(0, 0);
        due("of one that is OFF", x.weigh(0, 7), 2);
        due("its cost", x.cost(1), 7);
    }

    private static void toldBounds() {
        by("what = 0 KIND, 1 a, 2 b, 3 n (as they were told), 4 WEIGHT, 5 MODE. UNKNOWN, OUTSIDE.");
        bounds("told", BoundariesTest::twelve, (x, what) -> x.told(11, what), 0, 5, OUTSIDE);
    }

    private static void toldAsTheyWereTold() {
        by("3 n (as they were told)");
        int[][] rows = {{0, 1, MAX, 63}, {0, 0, MIN, 0}, {1, 0, 1, MIN}, {2, 1, 0, MAX}, {3, 0, 1, -5}, {4, 1, 0, 5},
            {5, 0, 1, 63}, {6, 5, MAX, 0}, {7, 0, MIN, 5}, {8, 0, 25, MIN}, {8, 25, 25, -1}, {6, 0, -1, 5}};
        WhyNots x = of(2, 2);
        for (int r = 0; r < rows.length; r++) {
            due("rule", x.rule(rows[r][0], rows[r][1], rows[r][2], rows[r][3], 1000 - r), r);
        }
        x.mode(11, 2);
        for (int r = 0; r < rows.length; r++) {
            for (int what = 0; what < 4; what++) {
                due("told(" + r + ", " + what + ")", x.told(r, what), rows[r][what]);
            }
            due("told(" + r + ", 4)", x.told(r, 4), 1000 - r);
            due("told(" + r + ", 5)", x.told(r, 5), r == 11 ? 2 : 1);
        }
    }

    private static void countBounds() {
        by("How many: what = 0 CHOICES, 1 RULES, 2 PLANS, 3 that STAND, 4 of these with BEST's SCORE, 5 CLASHES, 6 RELAXATIONS. OUTSIDE.");
        bounds("count, empty", WhyNots::new, WhyNots::count, 0, 6, OUTSIDE);
        bounds("count", Build::clashing, WhyNots::count, 0, 6, OUTSIDE);
        WhyNots x = withRule(of(2), 0, 0, 0, 0);
        due("none stands", x.count(3), 0);
        due("none of these", x.count(4), 0);
        due("one clash", x.count(5), 1);
        due("one relaxation", x.count(6), 1);
        WhyNots y = of(6, 6, 6, 6, 6);
        due("all stand", y.count(3), 7776);
        due("all alike", y.count(4), 7776);
        y.worth(4, 5, 1);
        due("a sixth of them", y.count(4), 1296);
    }

    // ---- Promises 9 to 16, 22 to 24

    private static WhyNots extreme(int worth, boolean broken) {
        WhyNots x = of(1, 1, 1, 1, 1);
        for (int c = 0; c < 5; c++) {
            x.worth(c, 0, worth);
        }
        for (int r = 0; r < 12; r++) {
            x.rule(broken ? 7 : 6, 5, 0, 1, 1000);
            x.mode(r, 2);
        }
        return x;
    }

    private static void scoreBounds() {
        by("Its SCORE is the WORTHS of what it takes, together, less THE COST of the SOFT RULES that it breaks.");
        due("the greatest", extreme(1000, false).best(), 5000);
        due("the least", extreme(-1000, true).best(), -17000);
        due("score, the least", extreme(-1000, true).score(0, 0, 0, 0, 0), -17000);
        due("score, the greatest", extreme(1000, false).score(0, 0, 0, 0, 0), 5000);
        WhyNots x = extreme(1000, true);
        for (int r = 0; r < 12; r++) {
            x.mode(r, 1);
        }
        due("HARD ones cost nothing", x.score(0, 0, 0, 0, 0), 5000);
        due("but it does not stand", x.best(), NO);
    }

    private static void firstOfTheGreatest() {
        by("BEST is, of the PLANS that STAND, the first one in ORDER of those with the greatest SCORE.");
        WhyNots x = of(6, 6, 6, 6, 6);
        for (int c = 0; c < 5; c++) {
            due("all alike", x.pick(c), 0);
        }
        x.worth(0, 5, 1);
        due("the greatest, though the last", x.pick(0), 5);
        x.worth(0, 4, 1);
        due("the first of two", x.pick(0), 4);
        x.rule(0, 0, 0, 47, 1);
        due("the first one does not stand", x.pick(0), 5);
        Build.worths(x, 0, -9, -9, -9, -9, -9, -9);
        due("below 0, too", x.best(), -9);
        due("below 0, too", x.pick(0), 0);
    }

    private static void bestOfNone() {
        by("SCORE of BEST. NO.");
        WhyNots x = withRule(of(6, 6), 8, 10, 10, 0);
        due("one stands", x.best(), 0);
        x.rule(0, 0, 0, 31, 1);
        due("none", x.best(), NO);
        due("pick", x.pick(0), NO);
        due("fixed", x.fixed(0), NO);
        x.mode(1, 0);
        due("one again", x.best(), 0);
    }

    private static void fixedAlikeOrNot() {
        by("What all PLANS that STAND with BEST's SCORE take for a CHOICE; NONE if they are not alike.");
        WhyNots x = of(2, 6);
        x.worth(1, 5, 1);
        due("alike in one", x.fixed(1), 5);
        due("not alike in the other", x.fixed(0), NONE);
        x.worth(0, 1, 1);
        due("one only", x.fixed(0), 1);
        due("one only", x.fixed(1), 5);
        x.worth(1, 0, 1);
        due("two", x.fixed(1), NONE);
        x.rule(0, 1, 0, 62, 1);
        due("the first of them does not stand", x.fixed(1), 5);
        due("of one candidate", of(1, 6).fixed(0), 0);
        due("of two", of(2).fixed(0), NONE);
        due("of the last one, full", of(6, 6, 6, 6, 6).fixed(4), NONE);
    }

    private static void forcedTakesTheFirst() {
        by("What the first such PLAN in ORDER, with that SCORE, takes for a CHOICE. UNKNOWN (also of), NO.");
        WhyNots x = of(6, 6, 6, 6, 6);
        for (int of = 0; of < 5; of++) {
            due("all alike", x.forced(4, 5, of), of == 4 ? 5 : 0);
            due("all alike", x.forced(0, 5, of), of == 0 ? 5 : 0);
        }
        x.rule(8, 25, 25, 0, 1);
        due("the last plan", x.forced(0, 5, 4), 5);
        due("its score", x.force(0, 5), 0);
        due("no plan", x.forced(0, 4, 0), NO);
        due("no plan", x.force(0, 4), NO);
        due("no plan, of an unknown one", x.forced(0, 4, 5), UNKNOWN);
    }

    private static void avoidNone() {
        by("The greatest SCORE of a PLAN that STANDS and does not take a CANDIDATE. UNKNOWN, NO.");
        WhyNots x = of(2, 1);
        due("one of two", x.avoid(0, 1), 0);
        due("the only one", x.avoid(1, 0), NO);
        x.rule(0, 0, 0, 2, 1);
        due("all that stand take it", x.avoid(0, 1), NO);
        due("none that stands takes it", x.avoid(0, 0), 0);
    }

    private static void raiseIsZeroOrMore() {
        by("The least number, 0 or more, by which the WORTH of a CANDIDATE would have to be greater (also beyond 1000) for BEST to take it.");
        WhyNots x = of(3);
        Build.worths(x, 0, 0, 1000, 0);
        due("taken, by far", x.raise(0, 1), 0);
        due("before it: as much", x.raise(0, 0), 1000);
        due("behind it: one more", x.raise(0, 2), 1001);
        x.worth(0, 0, 999);
        due("1 below, before it", x.raise(0, 0), 1);
        x.worth(0, 0, 1000);
        due("alike, before it", x.raise(0, 0), 0);
        due("alike, behind it", x.raise(0, 1), 1);
        due("the only candidate", of(1).raise(0, 0), 0);
        due("the worth is left as it is", x.worth(0, 1, 0), 1000);
    }

    /** With candidate 1 of choice 0 the worst of all, without it the best of all, and eight soft rules. */
    private static WhyNots farApart() {
        WhyNots x = of(2, 2, 2, 2, 2);
        for (int c = 0; c < 5; c++) {
            Build.worths(x, c, 1000, -1000);
        }
        for (int c = 1; c < 5; c++) {
            x.rule(5, 0, c, 9, 1);
        }
        for (int r = 4; r < 12; r++) {
            x.rule(0, 0, 0, 1, 1000);
            x.mode(r, 2);
        }
        return x;
    }

    private static void raiseBeyondThousand() {
        by("would have to be greater (also beyond 1000)");
        WhyNots x = farApart();
        due("best()", x.best(), 5000);
        due("force(0, 1)", x.force(0, 1), -13000);
        due("raise(0, 1)", x.raise(0, 1), 18001);
        due("raise(0, 0)", x.raise(0, 0), 0);
        WhyNots y = of(2);
        Build.worths(y, 0, -1000, 1000);
        due("as much", y.raise(0, 0), 2000);
    }

    private static void raiseNothing() {
        by("NO (nothing that STANDS takes it)");
        WhyNots x = withRule(of(2, 2), 0, 0, 0, 2);
        due("nothing takes it", x.raise(0, 0), NO);
        due("all take it", x.raise(0, 1), 0);
        x.mode(0, 2);
        due("SOFT: it costs 1, and 0 is before 1", x.raise(0, 0), 1);
        x.rule(0, 1, 0, 0, 1);
        due("none stands", x.raise(0, 0), NO);
        due("none stands", x.raise(1, 1), NO);
    }

    private static void lowerBounds() {
        by("By which it would have to be less for BEST not to take it.");
        WhyNots x = of(3);
        Build.worths(x, 0, 0, 1000, 0);
        due("not taken", x.lower(0, 0), 0);
        due("not taken", x.lower(0, 2), 0);
        due("an earlier one: as much", x.lower(0, 1), 1000);
        x.worth(0, 2, 1);
        due("a later one: 1 nearer, but one more", x.lower(0, 1), 1000);
        x.worth(0, 2, 2);
        due("a later one, nearer", x.lower(0, 1), 999);
        x.worth(0, 0, 1000);
        due("alike, the first", x.lower(0, 0), 1);
        due("alike, the second", x.lower(0, 1), 0);
        due("far below -1000", farApart().lower(0, 0), 18001);
        due("the worth is left as it is", x.worth(0, 1, 0), 1000);
    }

    private static void lowerNone() {
        by("NO (none STANDS, or all that STAND take it)");
        WhyNots x = withRule(of(2, 2), 0, 0, 0, 2);
        due("all take it", x.lower(0, 1), NO);
        due("nothing takes it", x.lower(0, 0), 0);
        due("the only candidate", of(1).lower(0, 0), NO);
        x.rule(0, 1, 0, 0, 1);
        due("none stands", x.lower(0, 0), NO);
        due("none stands", x.lower(1, 1), NO);
    }

    private static void needsLeast() {
        by("The set of HARD RULES that a PLAN with a CANDIDATE breaks, of least COST; of several the least number.");
        WhyNots x = of(6, 6, 6, 6, 6);
        due("no rules", x.needs(4, 5), 0);
        for (int r = 0; r < 12; r++) {
            x.rule(0, 0, 0, 0, 1000);
        }
        due("all twelve", x.needs(4, 5), 4095);
        for (int r = 0; r < 12; r++) {
            x.mode(r, r % 2 * 2);
        }
        due("none is HARD", x.needs(0, 0), 0);
        WhyNots y = of(2, 2);
        y.rule(0, 1, 0, 1, 7);
        y.rule(0, 1, 0, 2, 7);
        due("like costs", y.needs(0, 0), 1);
        y.weigh(1, 6);
        due("1 less", y.needs(0, 0), 2);
        y.weigh(1, 8);
        due("1 more", y.needs(0, 0), 1);
    }

    private static void priceOfOff() {
        by("How much greater BEST's SCORE would be if a RULE were OFF (0 for one that is).");
        WhyNots x = of(2);
        x.worth(0, 1, 1000);
        x.rule(0, 0, 0, 1, 1);
        due("HARD", x.price(0), 1000);
        x.mode(0, 0);
        due("OFF", x.price(0), 0);
        x.mode(0, 2);
        due("SOFT", x.price(0), 1);
        x.weigh(0, 1000);
        due("SOFT, either way", x.price(0), 1000);
        due("it is as it was", x.told(0, 5), 2);
        due("it is as it was", x.best(), 0);
    }

    private static void priceBounds() {
        by("UNKNOWN, NO (none STANDS as it is)");
        WhyNots x = farApart();
        x.mode(4, 1);
        due("kept already", x.price(4), 0);
        x.rule(0, 0, 0, 0, 1);
        due("a thirteenth is not there", x.price(12), UNKNOWN);
        WhyNots y = withRule(of(2), 0, 0, 0, 0);
        due("none stands, though one would without it", y.price(0), NO);
        y.rule(8, 0, 25, 0, 1);
        y.mode(1, 0);
        due("none stands, of one that is OFF", y.price(1), NO);
        y.mode(0, 2);
        due("a plan stands", y.price(0), 1);
        due("a plan stands", y.price(1), 0);
    }

    private static int[] atOnly(int place, int number) {
        int[] x = new int[5];
        x[place] = number;
        return x;
    }

    private static void looksAtSoMany(String method, int want) {
        for (int many = 0; many <= 5; many++) {
            int[] sizes = new int[many];
            java.util.Arrays.fill(sizes, 2);
            for (int place = 0; place < 5; place++) {
                for (int wrong : new int[] {-1, 2, 6, MIN, MAX}) {
                    WhyNots x = of(sizes);
                    x.rule(7, 5, 0, 1, 3);
                    x.mode(0, 2);
                    int[] numbers = atOnly(place, wrong);
                    due(many + " choices: " + Call.text(method, numbers), Call.on(x, method, numbers),
                            place < many ? UNKNOWN : want);
                }
            }
        }
    }

    private static void breaksLooksAtSoMany() {
        by("it takes a .. e, as many as there are CHOICES (others are not looked at). UNKNOWN.");
        looksAtSoMany("breaks", 1);
        WhyNots x = of(6, 6, 6, 6, 6);
        for (int r = 0; r < 12; r++) {
            x.rule(8, 0, 24, 0, 1);
        }
        due("all twelve", x.breaks(5, 5, 5, 5, 5), 4095);
        due("none", x.breaks(5, 5, 5, 5, 4), 0);
        x.mode(0, 0);
        x.mode(11, 2);
        due("but the OFF one", x.breaks(5, 5, 5, 5, 5), 4094);
    }

    private static void scoreLooksAtSoMany() {
        by("it takes a .. e, as many as there are CHOICES (others are not looked at). UNKNOWN.");
        looksAtSoMany("score", -3);
    }

    // ---- Promises 17 to 21

    private static void costBounds() {
        by("UNKNOWN (a bit of a RULE that is not there; below 0)");
        due("empty, 0", new WhyNots().cost(0), 0);
        for (int many = 0; many <= 12; many++) {
            WhyNots x = of(2);
            for (int r = 0; r < many; r++) {
                x.rule(8, 0, 25, 0, 1000);
            }
            due("all of " + many, x.cost((1 << many) - 1), 1000 * many);
            due("the next bit", x.cost(1 << many), UNKNOWN);
            due("the next bit with all others", x.cost((2 << many) - 1), UNKNOWN);
            for (int bit = many; bit < 31; bit++) {
                due("bit " + bit, x.cost(1 << bit), UNKNOWN);
            }
            for (int below : new int[] {-1, MIN, MIN + 1, -4096}) {
                due("below 0", x.cost(below), UNKNOWN);
            }
        }
        WhyNots y = of(2);
        y.rule(8, 0, 25, 0, 1);
        y.mode(0, 0);
        due("of an OFF one", y.cost(1), 1);
    }

    private static void clashIsZero() {
        by("0 if some PLAN STANDS.");
        due("empty", new WhyNots().clash(), 0);
        due("no rules", of(6, 6, 6, 6, 6).clash(), 0);
        WhyNots x = withRule(of(6, 6, 6, 6, 6), 8, 25, 25, 0);
        due("the last plan stands", x.clash(), 0);
        x.rule(0, 4, 0, 31, 1);
        due("none stands", x.clash(), 3);
        x.mode(0, 2);
        due("one is SOFT", x.clash(), 0);
    }

    private static void clashOfOneAndOfTwelve() {
        by("each is left out if no PLAN keeps all of the rest; what is left.");
        WhyNots one = of(2);
        for (int r = 0; r < 12; r++) {
            one.rule(0, 0, 0, 0, 1);
        }
        due("all alone clash: the last is left", one.clash(), 1 << 11);
        due("as many clashes as rules", one.count(5), 12);
        due("one relaxation", one.count(6), 1);
        due("all of them", one.relaxAt(0), 4095);
        WhyNots many = of(6, 6, 6, 6, 6);
        for (int a = 0; a < 6; a++) {
            many.rule(7, a, 0, 1, 1);
        }
        due("six together", many.clash(), 63);
        due("one clash", many.count(5), 1);
        due("six relaxations", many.count(6), 6);
        for (int a = 0; a < 6; a++) {
            many.rule(7, a, 0, 1, 1);
        }
        due("the first six are left out", many.clash(), 63 << 6);
        due("one of each pair", many.count(5), 64);
    }

    private static void clashAtBounds() {
        by("The i-th CLASH (0 the first). NO.");
        WhyNots one = withRule(of(2), 0, 0, 0, 0);
        due("the first", one.clashAt(0), 1);
        bounds("clashAt", () -> withRule(of(2), 0, 0, 0, 0), WhyNots::clashAt, 0, 0, NO);
        due("there is none", withRule(of(2), 0, 0, 0, 1).clashAt(0), NO);
        bounds("clashAt, many", BoundariesTest::hundredSixtyClashes, WhyNots::clashAt, 0, 159, NO);
    }

    private static WhyNots hundredSixtyClashes() {
        WhyNots x = of(6, 6, 6, 6, 6);
        for (int r = 0; r < 12; r++) {
            x.rule(7, r % 6, 0, 2, 1);
        }
        return x;
    }

    private static void clashesByHowMany() {
        by("CLASHES stand by how many RULES they have, of like ones the lesser number first.");
        WhyNots x = of(2, 2);
        x.rule(1, 0, 1, 0, 1000);
        x.rule(0, 0, 0, 1, 1);
        x.rule(0, 1, 0, 1, 1);
        x.rule(0, 0, 0, 2, 1);
        x.rule(0, 1, 0, 2, 1);
        x.rule(7, 3, 0, 1, 1);
        int[] want = {32, 10, 20, 7, 25};
        for (int i = 0; i < want.length; i++) {
            due("clashAt(" + i + ")", x.clashAt(i), want[i]);
        }
        due("no more", x.clashAt(5), NO);
    }

    private static void relaxationZero() {
        by("(0, if some PLAN STANDS)");
        for (WhyNots x : new WhyNots[] {new WhyNots(), of(6, 6, 6, 6, 6), twelve(), Build.middle(), Build.full()}) {
            due("how many", x.count(6), 1);
            due("the first", x.relaxAt(0), 0);
            due("the second", x.relaxAt(1), NO);
            due("clashes", x.count(5), 0);
        }
        WhyNots y = withRule(of(2), 0, 0, 0, 0);
        due("none stands", y.relaxAt(0), 1);
        y.mode(0, 0);
        due("no HARD rule", y.relaxAt(0), 0);
    }

    private static void relaxAtBounds() {
        by("The i-th RELAXATION. NO.");
        bounds("relaxAt", () -> of(2), WhyNots::relaxAt, 0, 0, NO);
        bounds("relaxAt, many", BoundariesTest::manyRelaxations, WhyNots::relaxAt, 0, 215, NO);
    }

    /** Four rules on each of three choices, of which each candidate keeps another two. */
    private static WhyNots manyRelaxations() {
        WhyNots x = of(6, 6, 6);
        int[] sets = {7, 25, 42, 52};
        for (int r = 0; r < 12; r++) {
            x.rule(0, r / 4, 0, sets[r % 4], 10);
        }
        return x;
    }

    private static void relaxationsByCost() {
        by("They stand by THE COST, of like ones the lesser number first.");
        WhyNots x = manyRelaxations();
        int last = -1;
        for (int i = 0; i < 216; i++) {
            int set = x.relaxAt(i);
            due("cost of relaxation " + i, x.cost(set), 60);
            check.holds("of like ones the lesser number first: " + last + ", " + set, last < set);
            last = set;
        }
        due("no more", x.relaxAt(216), NO);
        WhyNots y = of(3);
        y.rule(0, 0, 0, 3, 5);
        y.rule(0, 0, 0, 4, 5);
        due("like costs: the lesser number", y.relaxAt(0), 1);
        y.weigh(0, 6);
        due("1 dearer", y.relaxAt(0), 2);
        y.weigh(0, 4);
        due("1 cheaper", y.relaxAt(0), 1);
    }

    private static void manyOfBoth() {
        by("12 at most");
        due("clashes", hundredSixtyClashes().count(5), 160);
        due("its relaxations: all but two pairs", hundredSixtyClashes().count(6), 15);
        due("relaxations", manyRelaxations().count(6), 216);
        due("its clashes: three of four", manyRelaxations().count(5), 12);
    }

    // ---- whole objects

    private static void theEmptyObject() {
        by("`WhyNots()`: No CHOICES, no RULES.");
        due("count(0)", new WhyNots().count(0), 0);
        due("count(1)", new WhyNots().count(1), 0);
        due("worth", new WhyNots().worth(0, 0, 0), UNKNOWN);
        for (int kind = 0; kind <= 8; kind++) {
            due("rule of kind " + kind, new WhyNots().rule(kind, 0, 1, 0, 1), kind <= 5 ? UNKNOWN : 0);
        }
        due("mode", new WhyNots().mode(0, 1), UNKNOWN);
        due("weigh", new WhyNots().weigh(0, 1), UNKNOWN);
        due("told", new WhyNots().told(0, 0), UNKNOWN);
        due("best", new WhyNots().best(), 0);
        due("pick", new WhyNots().pick(0), UNKNOWN);
        due("fixed", new WhyNots().fixed(0), UNKNOWN);
        due("force", new WhyNots().force(0, 0), UNKNOWN);
        due("forced", new WhyNots().forced(0, 0, 0), UNKNOWN);
        due("avoid", new WhyNots().avoid(0, 0), UNKNOWN);
        due("raise", new WhyNots().raise(0, 0), UNKNOWN);
        due("lower", new WhyNots().lower(0, 0), UNKNOWN);
        due("needs", new WhyNots().needs(0, 0), UNKNOWN);
        due("clash", new WhyNots().clash(), 0);
        due("clashAt", new WhyNots().clashAt(0), NO);
        due("relaxAt", new WhyNots().relaxAt(0), 0);
        due("cost", new WhyNots().cost(0), 0);
        due("price", new WhyNots().price(0), UNKNOWN);
        due("breaks", new WhyNots().breaks(0, 0, 0, 0, 0), 0);
        due("score", new WhyNots().score(0, 0, 0, 0, 0), 0);
        due("choice", new WhyNots().choice(1), 0);
    }

    private static void onlyChoices() {
        by("`WhyNots()`: No CHOICES, no RULES.");
        WhyNots x = of(1);
        due("the only plan", x.count(2), 1);
        due("pick", x.pick(0), 0);
        due("fixed", x.fixed(0), 0);
        due("force", x.force(0, 0), 0);
        due("forced", x.forced(0, 0, 0), 0);
        due("avoid", x.avoid(0, 0), NO);
        due("raise", x.raise(0, 0), 0);
        due("lower", x.lower(0, 0), NO);
        due("needs", x.needs(0, 0), 0);
        due("price", x.price(0), UNKNOWN);
        due("cost(1)", x.cost(1), UNKNOWN);
    }

    private static void onlyRules() {
        by("(Without CHOICES there is one PLAN.)");
        WhyNots x = new WhyNots();
        for (int r = 0; r < 12; r++) {
            due("rule " + r, x.rule(6 + r % 3, 0, 25, r % 3 == 1 ? 1 : 0, 1 + r), r);
        }
        due("a thirteenth", x.rule(6, 0, 0, 0, 1), ROOM);
        due("breaks", x.breaks(9, 9, 9, 9, 9), 0b010010010010);
        due("clash: the last of them", x.clash(), 1 << 10);
        due("clashes", x.count(5), 4);
        due("relaxations", x.count(6), 1);
        due("relaxAt(0)", x.relaxAt(0), 0b010010010010);
        due("price", x.price(0), NO);
        for (int r = 1; r < 12; r += 3) {
            x.mode(r, 2);
        }
        due("best()", x.best(), -(2 + 5 + 8 + 11));
        due("price(10)", x.price(10), 11);
        due("price(0)", x.price(0), 0);
    }

    private static void theFullObject() {
        by("(12 at most)");
        WhyNots x = Build.full();
        due("a choice", x.choice(1), ROOM);
        due("a rule", x.rule(6, 0, 0, 0, 1), ROOM);
        due("choices", x.count(0), 5);
        due("rules", x.count(1), 12);
        due("plans", x.count(2), 7776);
        due("the last worth", x.worth(4, 5, 1000), 5);
        due("the last rule's mode", x.mode(11, 1), 0);
        due("the last rule's weight", x.weigh(11, 1000), 13);
        due("the last rule told", x.told(11, 3), 1);
        due("all rules' cost", x.cost(4095), 2 + 3 + 4 + 5 + 6 + 7 + 8 + 9 + 10 + 11 + 12 + 1000);
    }

    private static void aNewObjectIsItsOwn() {
        by("`WhyNots()`: No CHOICES, no RULES.");
        WhyNots x = Build.full();
        WhyNots y = new WhyNots();
        due("choices of another", y.count(0), 0);
        due("rules of another", y.count(1), 0);
        y.choice(2);
        due("its own are left", x.count(0), 5);
        due("worth of another", y.worth(0, 1, 3), 0);
    }

    /** The document frees what comes after the 512th call; LANGUAGE.md still wants no call to throw. */
    private static void the512thCall() {
        by("An object is used for at most 512 calls after it has been made");
        WhyNots x = of(6, 6, 6, 6, 6);
        for (int call = 6; call <= 509; call++) {
            due("call " + call, x.worth(4, call % 6, call), call < 12 ? 0 : call - 6);
        }
        due("call 510", x.rule(8, 24, 24, 0, 1), 0);
        due("call 511", x.forced(4, 4, 0), 5);
        due("call 512", x.best(), 509);
        for (int later = 0; later < 600; later++) {
            x.choice(later);
            x.rule(later % 9, 0, 1, 0, 1);
            x.clash();
            x.relaxAt(later);
        }
    }
}

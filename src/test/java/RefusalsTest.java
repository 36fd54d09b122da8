import java.util.HashMap;
import java.util.List;
import java.util.Map;
import java.util.function.Supplier;

/**
 * "REFUSALS, of several the first one here: UNKNOWN .., OUTSIDE .., ROOM, NO .. What is refused
 * changes nothing." Each row is a refused call on one of four objects, with the answer that is due;
 * after it, all that the object shows must be as it was, asked before or not.
 */
public final class RefusalsTest {
    private static final int UNKNOWN = -1000001, OUTSIDE = -1000002, ROOM = -1000003, NO = -1000004;
    private static final int MIN = Integer.MIN_VALUE, MAX = Integer.MAX_VALUE;
    private static final Check check = new Check();

    private static String name;
    private static Supplier<WhyNots> make;
    private static List<String> before;
    private static final Map<String, Integer> seen = new HashMap<>();

    public static void main(String[] args) {
        start("empty", Build::empty);
        emptyUnknown();
        emptyOthers();
        start("middle", Build::middle);
        unknownAlone();
        outsideAlone();
        unknownBeforeOutside();
        noAlone();
        start("clashing", Build::clashing);
        noneStands();
        unknownBeforeNo();
        start("full", Build::full);
        roomAlone();
        otherRefusalsBeforeRoom();
        eachRefusalOfEachMethod();
        check.end();
    }

    private static void start(String object, Supplier<WhyNots> maker) {
        name = object;
        make = maker;
        before = Shown.of(make);
    }

    private static void refused(int want, String method, int... numbers) {
        String call = name + ": " + Call.text(method, numbers);
        check.due(call, Call.on(make.get(), method, numbers), want);
        changesNothing(call, () -> {
            WhyNots x = make.get();
            Call.on(x, method, numbers);
            return x;
        });
        // What was found before the call must not be spoilt by it either.
        changesNothing(call + " after questions", () -> {
            WhyNots x = make.get();
            ask(x);
            Call.on(x, method, numbers);
            return x;
        });
        seen.merge(method + " " + want, 1, Integer::sum);
    }

    private static void ask(WhyNots x) {
        x.best();
        x.count(5);
        x.price(0);
        x.raise(0, 0);
        x.breaks(0, 0, 0, 0, 0);
    }

    private static void changesNothing(String call, Supplier<WhyNots> after) {
        List<String> now = Shown.of(after);
        check.due(call + ", lines shown", now.size(), before.size());
        for (int i = 0; i < before.size() && i < now.size(); i++) {
            if (!now.get(i).equals(before.get(i))) {
                check.holds(call + " changes nothing, but: " + before.get(i) + ", then " + now.get(i), false);
                return;
            }
        }
    }

    private static void emptyUnknown() {
        refused(UNKNOWN, "worth", 0, 0, 0);
        refused(UNKNOWN, "worth", 0, 0, 1001);
        for (int kind = 0; kind <= 5; kind++) {
            refused(UNKNOWN, "rule", kind, 0, 1, 0, 1);
            refused(UNKNOWN, "rule", kind, 0, 0, 99, 0);
        }
        refused(UNKNOWN, "mode", 0, 0);
        refused(UNKNOWN, "mode", 0, 3);
        refused(UNKNOWN, "weigh", 0, 1);
        refused(UNKNOWN, "weigh", 0, 0);
        refused(UNKNOWN, "told", 0, 0);
        refused(UNKNOWN, "told", 0, 6);
        refused(UNKNOWN, "pick", 0);
        refused(UNKNOWN, "fixed", 0);
        for (String method : new String[] {"force", "avoid", "raise", "lower", "needs"}) {
            refused(UNKNOWN, method, 0, 0);
        }
        refused(UNKNOWN, "forced", 0, 0, 0);
        refused(UNKNOWN, "cost", 1);
        refused(UNKNOWN, "cost", -1);
        refused(UNKNOWN, "price", 0);
    }

    private static void emptyOthers() {
        refused(OUTSIDE, "choice", 0);
        refused(OUTSIDE, "choice", 7);
        refused(OUTSIDE, "rule", -1, 0, 0, 0, 1);
        refused(OUTSIDE, "rule", 9, 0, 0, 0, 1);
        refused(OUTSIDE, "rule", 6, -1, 0, 0, 1);
        refused(OUTSIDE, "rule", 7, 6, 0, 0, 1);
        refused(OUTSIDE, "rule", 8, 1, 0, 0, 1);
        refused(OUTSIDE, "rule", 8, 0, 0, 0, 0);
        refused(OUTSIDE, "count", -1);
        refused(OUTSIDE, "count", 7);
        refused(NO, "clashAt", 0);
        refused(NO, "relaxAt", 1);
    }

    /** Middle: choices 0 and 1 of 3 and 2 candidates, rules 0 to 3. */
    private static void unknownAlone() {
        int[][] pairs = {{2, 0}, {-1, 0}, {0, 3}, {0, -1}, {1, 2}, {MIN, 0}, {0, MAX}};
        for (int[] p : pairs) {
            refused(UNKNOWN, "worth", p[0], p[1], 1);
            for (String method : new String[] {"force", "avoid", "raise", "lower", "needs"}) {
                refused(UNKNOWN, method, p[0], p[1]);
            }
            refused(UNKNOWN, "forced", p[0], p[1], 0);
        }
        for (int wrong : new int[] {-1, 2, MIN, MAX}) {
            refused(UNKNOWN, "pick", wrong);
            refused(UNKNOWN, "fixed", wrong);
            refused(UNKNOWN, "forced", 0, 0, wrong);
            refused(UNKNOWN, "rule", 0, wrong, 0, 0, 1);
            refused(UNKNOWN, "rule", 1, wrong, 0, 0, 1);
            refused(UNKNOWN, "rule", 5, 0, wrong, 0, 1);
        }
        for (int wrong : new int[] {-1, 4, 32, MIN, MAX}) {
            refused(UNKNOWN, "mode", wrong, 0);
            refused(UNKNOWN, "weigh", wrong, 1);
            refused(UNKNOWN, "told", wrong, 0);
            refused(UNKNOWN, "price", wrong);
        }
        for (int wrong : new int[] {-1, 16, 17, 1 << 30, MIN, MAX}) {
            refused(UNKNOWN, "cost", wrong);
        }
        for (String method : new String[] {"breaks", "score"}) {
            refused(UNKNOWN, method, 3, 0, 0, 0, 0);
            refused(UNKNOWN, method, -1, 0, 0, 0, 0);
            refused(UNKNOWN, method, 0, 2, 0, 0, 0);
            refused(UNKNOWN, method, 0, -1, 0, 0, 0);
            refused(UNKNOWN, method, MIN, MAX, 0, 0, 0);
        }
    }

    private static void outsideAlone() {
        for (int wrong : new int[] {0, 7, -1, MIN, MAX}) {
            refused(OUTSIDE, "choice", wrong);
        }
        for (int wrong : new int[] {-1001, 1001, MIN, MAX}) {
            refused(OUTSIDE, "worth", 0, 0, wrong);
        }
        for (int wrong : new int[] {-1, 3, MIN, MAX}) {
            refused(OUTSIDE, "mode", 0, wrong);
        }
        for (int wrong : new int[] {0, 1001, MIN, MAX}) {
            refused(OUTSIDE, "weigh", 0, wrong);
            refused(OUTSIDE, "rule", 1, 0, 1, 0, wrong);
        }
        for (int wrong : new int[] {-1, 6, MIN, MAX}) {
            refused(OUTSIDE, "told", 0, wrong);
        }
        for (int wrong : new int[] {-1, 7, MIN, MAX}) {
            refused(OUTSIDE, "count", wrong);
        }
        for (int wrong : new int[] {-1, 9, MIN, MAX}) {
            refused(OUTSIDE, "rule", wrong, 0, 1, 0, 1);
        }
        refused(OUTSIDE, "rule", 0, 0, 0, 64, 1);
        refused(OUTSIDE, "rule", 1, 1, 1, 0, 1);
        refused(OUTSIDE, "rule", 3, 0, 1, -6, 1);
        refused(OUTSIDE, "rule", 4, 0, 1, 6, 1);
        refused(OUTSIDE, "rule", 5, 0, 1, -1, 1);
        refused(OUTSIDE, "rule", 6, 0, 0, 6, 1);
        refused(OUTSIDE, "rule", 7, 6, 0, 0, 1);
        refused(OUTSIDE, "rule", 8, 0, 26, 0, 1);
        // a and b name no choice, but there is no such kind that takes them for choices.
        refused(OUTSIDE, "rule", 9, 7, 7, 0, 1);
        refused(OUTSIDE, "rule", -1, -1, -1, 99, 0);
    }

    private static void unknownBeforeOutside() {
        refused(UNKNOWN, "worth", 2, 0, 1001);
        refused(UNKNOWN, "worth", 0, 3, -1001);
        refused(UNKNOWN, "worth", -1, -1, MAX);
        refused(UNKNOWN, "mode", 4, 3);
        refused(UNKNOWN, "mode", -1, -1);
        refused(UNKNOWN, "weigh", 4, 0);
        refused(UNKNOWN, "weigh", -1, 1001);
        refused(UNKNOWN, "told", 4, 6);
        refused(UNKNOWN, "told", -1, -1);
        refused(UNKNOWN, "rule", 0, 2, 0, 64, 1);
        refused(UNKNOWN, "rule", 0, 2, 0, 0, 0);
        for (int kind = 1; kind <= 5; kind++) {
            refused(UNKNOWN, "rule", kind, 2, 2, 0, 1);
            refused(UNKNOWN, "rule", kind, 0, 2, 99, 1);
            refused(UNKNOWN, "rule", kind, -1, 0, 0, 1001);
        }
    }

    /** In middle the plans 0 1, 1 0 and 2 0 stand: there is one relaxation, 0, and no clash. */
    private static void noAlone() {
        refused(NO, "clashAt", 0);
        refused(NO, "clashAt", -1);
        refused(NO, "clashAt", MAX);
        refused(NO, "relaxAt", 1);
        refused(NO, "relaxAt", -1);
        refused(NO, "relaxAt", MIN);
    }

    private static void noneStands() {
        refused(NO, "best");
        refused(NO, "pick", 0);
        refused(NO, "fixed", 1);
        for (String method : new String[] {"force", "avoid", "raise", "lower"}) {
            refused(NO, method, 0, 0);
            refused(NO, method, 1, 1);
        }
        refused(NO, "forced", 0, 0, 1);
        refused(NO, "price", 0);
        refused(NO, "price", 4);
        refused(NO, "clashAt", -1);
        refused(NO, "clashAt", make.get().count(5));
        refused(NO, "relaxAt", -1);
        refused(NO, "relaxAt", make.get().count(6));
    }

    private static void unknownBeforeNo() {
        refused(UNKNOWN, "pick", 2);
        refused(UNKNOWN, "fixed", -1);
        for (String method : new String[] {"force", "avoid", "raise", "lower"}) {
            refused(UNKNOWN, method, 2, 0);
            refused(UNKNOWN, method, 0, 3);
        }
        refused(UNKNOWN, "forced", 2, 0, 0);
        refused(UNKNOWN, "forced", 0, 3, 0);
        refused(UNKNOWN, "forced", 0, 0, 2);
        refused(UNKNOWN, "price", 5);
        refused(UNKNOWN, "price", -1);
    }

    private static void roomAlone() {
        refused(ROOM, "choice", 1);
        refused(ROOM, "choice", 6);
        refused(ROOM, "rule", 0, 0, 0, 0, 1);
        refused(ROOM, "rule", 1, 0, 4, 0, 1000);
        refused(ROOM, "rule", 8, 0, 25, 0, 1);
    }

    private static void otherRefusalsBeforeRoom() {
        refused(OUTSIDE, "choice", 0);
        refused(OUTSIDE, "choice", 7);
        refused(OUTSIDE, "rule", 9, 0, 1, 0, 1);
        refused(OUTSIDE, "rule", 1, 2, 2, 0, 1);
        refused(OUTSIDE, "rule", 0, 0, 0, 64, 1);
        refused(OUTSIDE, "rule", 8, 0, 25, 0, 1001);
        refused(UNKNOWN, "rule", 0, 5, 0, 0, 1);
        refused(UNKNOWN, "rule", 1, 0, 5, 0, 1);
        refused(UNKNOWN, "rule", 4, 5, 5, 6, 0);
        refused(UNKNOWN, "cost", 4096);
        refused(UNKNOWN, "mode", 12, 0);
        refused(UNKNOWN, "breaks", 0, 0, 0, 0, 6);
        refused(UNKNOWN, "score", 0, 0, 0, 0, 6);
    }

    /** The refusals that the promises name, all of them, stand above. */
    private static void eachRefusalOfEachMethod() {
        String[] promised = {"choice OUTSIDE ROOM", "worth UNKNOWN OUTSIDE", "rule UNKNOWN OUTSIDE ROOM",
            "mode UNKNOWN OUTSIDE", "weigh UNKNOWN OUTSIDE", "told UNKNOWN OUTSIDE", "count OUTSIDE", "best NO",
            "pick UNKNOWN NO", "fixed UNKNOWN NO", "force UNKNOWN NO", "forced UNKNOWN NO", "avoid UNKNOWN NO",
            "raise UNKNOWN NO", "lower UNKNOWN NO", "needs UNKNOWN", "clashAt NO", "relaxAt NO", "cost UNKNOWN",
            "price UNKNOWN NO", "breaks UNKNOWN", "score UNKNOWN"};
        int named = 0;
        for (String row : promised) {
            String[] words = row.split(" ");
            for (int i = 1; i < words.length; i++) {
                int refusal = words[i].equals("UNKNOWN") ? UNKNOWN : words[i].equals("OUTSIDE") ? OUTSIDE
                        : words[i].equals("ROOM") ? ROOM : NO;
                check.holds("looked at: " + words[0] + " " + words[i], seen.containsKey(words[0] + " " + refusal));
                named++;
            }
        }
        check.due("refusals looked at that no promise names", seen.size() - named, 0);
    }
}

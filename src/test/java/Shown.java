import java.util.ArrayList;
import java.util.List;
import java.util.function.Supplier;

/**
 * All that the questions show of an object, one line for each call. A part of the questions goes
 * to each of several objects that were made alike, so that none of them gets more than 512 calls.
 */
final class Shown {
    private final List<String> lines = new ArrayList<>();
    private final Supplier<WhyNots> make;

    private Shown(Supplier<WhyNots> make) {
        this.make = make;
    }

    static List<String> of(Supplier<WhyNots> make) {
        Shown shown = new Shown(make);
        shown.whole();
        shown.rules();
        shown.pairs();
        shown.forced();
        shown.plans();
        shown.worths();
        shown.growth();
        return shown.lines;
    }

    private void line(String call, int answer) {
        lines.add(call + " = " + answer);
    }

    private void whole() {
        WhyNots x = make.get();
        for (int what = 0; what < 7; what++) {
            line("count(" + what + ")", x.count(what));
        }
        line("best()", x.best());
        for (int c = 0; c < 5; c++) {
            line("pick(" + c + ")", x.pick(c));
            line("fixed(" + c + ")", x.fixed(c));
        }
        line("clash()", x.clash());
        for (int i = 0; i < 60; i++) {
            line("clashAt(" + i + ")", x.clashAt(i));
            line("relaxAt(" + i + ")", x.relaxAt(i));
        }
    }

    private void rules() {
        WhyNots x = make.get();
        for (int r = 0; r < 12; r++) {
            for (int what = 0; what < 6; what++) {
                line("told(" + r + ", " + what + ")", x.told(r, what));
            }
            line("price(" + r + ")", x.price(r));
            line("cost(" + (1 << r) + ")", x.cost(1 << r));
        }
        for (int set = 0; set <= 4096; set += 91) {
            line("cost(" + set + ")", x.cost(set));
        }
    }

    private void pairs() {
        WhyNots x = make.get();
        for (int c = 0; c < 5; c++) {
            for (int k = 0; k < 6; k++) {
                String of = "(" + c + ", " + k + ")";
                line("force" + of, x.force(c, k));
                line("avoid" + of, x.avoid(c, k));
                line("raise" + of, x.raise(c, k));
                line("lower" + of, x.lower(c, k));
                line("needs" + of, x.needs(c, k));
            }
        }
    }

    private void forced() {
        WhyNots x = make.get();
        for (int c = 0; c < 5; c++) {
            for (int k = 0; k < 6; k++) {
                for (int of = 0; of < 5; of++) {
                    line("forced(" + c + ", " + k + ", " + of + ")", x.forced(c, k, of));
                }
            }
        }
    }

    private void plans() {
        WhyNots x = make.get();
        for (int p = 0; p < 7776; p += 61) {
            int a = p / 1296, b = p / 216 % 6, c = p / 36 % 6, d = p / 6 % 6, e = p % 6;
            String plan = "(" + a + ", " + b + ", " + c + ", " + d + ", " + e + ")";
            line("breaks" + plan, x.breaks(a, b, c, d, e));
            line("score" + plan, x.score(a, b, c, d, e));
        }
    }

    private void worths() {
        WhyNots x = make.get();
        for (int c = 0; c < 5; c++) {
            for (int k = 0; k < 6; k++) {
                line("worth(" + c + ", " + k + ", 0)", x.worth(c, k, 0));
            }
        }
    }

    /** What comes next gets the next number, and finds the rest as it was. */
    private void growth() {
        WhyNots x = make.get();
        line("choice(2)", x.choice(2));
        line("rule(7, 0, 0, 1, 9)", x.rule(7, 0, 0, 1, 9));
        for (int what = 0; what < 7; what++) {
            line("then count(" + what + ")", x.count(what));
        }
        line("then best()", x.best());
        line("then breaks(0, 1, 1, 1, 1)", x.breaks(0, 1, 1, 1, 1));
        line("then score(0, 1, 1, 1, 1)", x.score(0, 1, 1, 1, 1));
    }
}

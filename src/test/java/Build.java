/** Objects that several tests start from, each made anew. */
final class Build {
    private Build() {
    }

    static WhyNots of(int... candidates) {
        WhyNots x = new WhyNots();
        for (int many : candidates) {
            x.choice(many);
        }
        return x;
    }

    static void worths(WhyNots x, int choice, int... worths) {
        for (int k = 0; k < worths.length; k++) {
            x.worth(choice, k, worths[k]);
        }
    }

    /** No choices, no rules. */
    static WhyNots empty() {
        return new WhyNots();
    }

    /** Choices of 3 and 2 candidates, rules of each mode, some plans stand. */
    static WhyNots middle() {
        WhyNots x = of(3, 2);
        worths(x, 0, 4, 9, -7);
        worths(x, 1, 5, 5);
        x.rule(1, 0, 1, 0, 6);
        x.rule(0, 0, 0, 5, 3);
        x.rule(2, 0, 1, 0, 8);
        x.rule(8, 1, 2, 0, 2);
        x.mode(1, 2);
        x.mode(2, 0);
        return x;
    }

    /** The same choices, but the hard rules clash: no plan stands. */
    static WhyNots clashing() {
        WhyNots x = of(3, 2);
        worths(x, 0, 4, 9, -7);
        x.rule(0, 0, 0, 1, 6);
        x.rule(0, 0, 0, 2, 3);
        x.rule(0, 1, 0, 2, 5);
        x.rule(2, 0, 1, 0, 5);
        x.rule(6, 1, 0, 0, 4);
        x.mode(4, 0);
        return x;
    }

    /** All choices with all candidates and all rules that there can be; some plans stand. */
    static WhyNots full() {
        WhyNots x = of(6, 6, 6, 6, 6);
        for (int c = 0; c < 5; c++) {
            worths(x, c, c, 7 - c, 3 * c, -c, 5, 1 + c);
        }
        int[][] rules = {{0, 0, 0, 62}, {1, 0, 1, 0}, {2, 1, 2, 0}, {3, 2, 3, -1}, {4, 3, 4, 2}, {5, 0, 4, 10},
            {6, 4, 0, 2}, {7, 1, 0, 1}, {8, 6, 14, 0}, {0, 4, 0, 15}, {3, 0, 4, 1}, {4, 0, 2, 1}};
        for (int r = 0; r < rules.length; r++) {
            x.rule(rules[r][0], rules[r][1], rules[r][2], rules[r][3], 2 + r);
        }
        x.mode(2, 2);
        x.mode(9, 2);
        x.mode(11, 0);
        return x;
    }
}

/** The Terms of ======== 1 ahead of the WEEKS: days, ones, chalk, carts. */
final class PeopleEdges {
    private static final int NONE = ChalkMarket.NONE;
    private static final int UNKNOWN = ChalkMarket.UNKNOWN;
    private static final int OUTSIDE = ChalkMarket.OUTSIDE;
    private static final Story FRESH = Story.of();

    private PeopleEdges() {
    }

    static void look(Edges edges) {
        days(edges);
        ones(edges);
        sureAndCoin(edges);
        chalk(edges);
        theDay(edges);
        carts(edges);
    }

    /** What the eight think, A first; - for none. */
    static Story thinking(String thinks) {
        Story story = FRESH;
        for (int one = 0; one < 8; one++) {
            int day = thinks.charAt(one) == '-' ? -1 : thinks.charAt(one) - '0';
            story = story.and("one(" + one + ", " + day + ", 5, 10)");
        }
        return story;
    }

    private static void days(Edges edges) {
        edges.quote("Terms", "DAYS are 0 to 6; behind 6 comes 0. It is DAY 0 at first.");
        edges.is(FRESH, "told(1)", 0);
        edges.is(FRESH, "day(3)", 0);
        edges.limits(RefusalEdges.BUSY, "day(#)", 0, 6, OUTSIDE);
        for (int day = 0; day < 7; day++) {
            Story story = FRESH.and("day(" + day + ")");
            int next = day == 6 ? 0 : day + 1;
            edges.is(story, "told(1)", day);
            edges.is(story.and("write ."), "then(0)", next);
            edges.is(story.and("do ."), "told(1)", next);
            edges.is(story.and("do ......."), "told(1)", day);
            edges.is(story.and("do " + ".".repeat(60)), "told(1)", (day + 60) % 7);
        }
        edges.is(FRESH.and("day(6)", "do ."), "day(1)", 0);
    }

    private static void ones(Edges edges) {
        edges.quote("Terms", "ONES 0 to 7 (A to H) each THINK of a DAY, or of none (all, at first),");
        edges.limits(FRESH, "one(#, 0, 0, 0)", 0, 7, UNKNOWN);
        edges.limits(FRESH, "behind(#, 0)", 0, 7, UNKNOWN);
        edges.limits(FRESH, "one(0, #, 0, 0)", -1, 6, OUTSIDE);
        edges.limits(FRESH, "one(7, #, 0, 0)", -1, 6, OUTSIDE);
        edges.is(FRESH.and("one(0, 2, 2, 2)"), "one(0, -6, 0, 0)", OUTSIDE);
        for (int one = 0; one < 8; one++) {
            edges.is(FRESH, "told(1" + one + ")", NONE);
            edges.is(FRESH, "behind(" + one + ", 0)", NONE);
            edges.is(FRESH.and("write " + (char) ('A' + one) + "6"), "behind(" + one + ", 0)", 6);
            edges.is(FRESH.and("do " + (char) ('A' + one) + "0"), "told(1" + one + ")", 0);
            for (int day = 0; day < 7; day++) {
                edges.is(FRESH.and("one(" + one + ", " + day + ", 0, 0)"), "told(1" + one + ")", day);
            }
        }
        edges.is(FRESH.and("write @0"), "fault()", 0);
        edges.is(FRESH.and("write I0"), "fault()", 0);
        edges.is(FRESH.and("one(7, 3, 5, 5)", "one(7, -1, 5, 5)"), "told(17)", NONE);
    }

    private static void sureAndCoin(Edges edges) {
        edges.quote("Terms", "are SURE by 0 to 9 (5 at first), and have COIN 0 to 99 (10 at first).");
        edges.limits(FRESH, "one(0, 0, #, 0)", 0, 9, OUTSIDE);
        edges.limits(FRESH, "one(7, -1, #, 99)", 0, 9, OUTSIDE);
        edges.limits(FRESH, "one(0, 0, 0, #)", 0, 99, OUTSIDE);
        edges.limits(FRESH, "one(7, -1, 9, #)", 0, 99, OUTSIDE);
        int[] sure = {0, 1, 8, 9};
        int[] coin = {0, 1, 98, 99};
        for (int one = 0; one < 8; one++) {
            edges.is(FRESH, "told(2" + one + ")", 5);
            edges.is(FRESH, "told(3" + one + ")", 10);
            for (int i = 0; i < 4; i++) {
                Story story = FRESH.and("one(" + one + ", 0, " + sure[i] + ", " + coin[i] + ")");
                edges.is(story, "told(2" + one + ")", sure[i]);
                edges.is(story, "told(3" + one + ")", coin[i]);
                edges.is(story, "one(" + one + ", 0, 0, 0)", 100 * sure[i] + coin[i]);
            }
        }
    }

    private static void chalk(Edges edges) {
        edges.quote("Terms", "CHALK of a DAY: how many THINK of it.");
        for (int day = 0; day < 7; day++) {
            edges.is(FRESH, "chalk(" + day + ")", 0);
            Story all = thinking(Integer.toString(day).repeat(8));
            for (int other = 0; other < 7; other++) {
                edges.is(all, "chalk(" + other + ")", other == day ? 8 : 0);
            }
            edges.is(all.and("one(7, -1, 0, 0)"), "chalk(" + day + ")", 7);
        }
        edges.is(thinking("--------"), "chalk(0)", 0);
    }

    private static void theDay(Edges edges) {
        edges.quote("Terms", "THE DAY is that of least CHALK, of as little the least.");
        String[][] rows = {{"--------", "0"}, {"0-------", "1"}, {"1-------", "0"}, {"012345--", "6"}, {"0123456-", "0"},
            {"01234560", "1"}, {"01234561", "0"}, {"01234566", "0"}, {"01234---", "5"}, {"01234466", "5"}, {"123456--", "0"},
            {"00123456", "1"}, {"0012345-", "6"}, {"66666666", "0"}, {"00000000", "1"}, {"01111111", "2"}, {"0123344-", "5"},
            {"0012346-", "5"}, {"00123466", "5"}, {"0123455-", "6"}};
        for (String[] row : rows) {
            edges.is(thinking(row[0]), "told(2)", row[1].charAt(0) - '0');
            edges.is(thinking(row[0]), "then(1)", row[1].charAt(0) - '0');
        }
    }

    private static void carts(Edges edges) {
        edges.quote("Terms", "CARTS 0 to 3 are FAR by 0 to 9 (3 at first; 0: in the town). It is morning 0 at first. "
            + "How often a CART SOLD is counted (0 at first).");
        edges.limits(FRESH, "cart(#, 0)", 0, 3, UNKNOWN);
        edges.limits(FRESH, "comes(#)", 0, 3, UNKNOWN);
        edges.limits(FRESH, "cart(0, #)", 0, 9, OUTSIDE);
        edges.limits(FRESH, "cart(3, #)", 0, 9, OUTSIDE);
        for (int cart = 0; cart < 4; cart++) {
            edges.is(FRESH, "told(4" + cart + ")", 3);
            edges.is(FRESH, "comes(" + cart + ")", 3);
            edges.is(FRESH.and("cart(" + cart + ", 0)"), "told(4" + cart + ")", 0);
            edges.is(FRESH.and("cart(" + cart + ", 9)"), "told(4" + cart + ")", 9);
            edges.is(FRESH.and("cart(" + cart + ", 9)"), "cart(" + cart + ", 0)", 9);
            // In the town by 0 alone: a MARKET sells it then, and not by 1.
            edges.is(FRESH.and("cart(" + cart + ", 0)", "day(6)", "do ."), "told(3)", 1);
            edges.is(FRESH.and("cart(" + cart + ", 1)", "day(6)", "do ."), "told(3)", 0);
        }
        edges.is(FRESH, "told(4)", 0);
        edges.is(FRESH, "then(4)", 0);
        edges.is(FRESH.and("do ."), "told(4)", 1);
        edges.is(FRESH, "told(3)", 0);
        Story two = FRESH.and("cart(0, 0)", "cart(2, 0)", "day(6)", "do .");
        edges.is(two, "told(3)", 2);
        edges.is(two.and("cart(0, 0)", "day(6)", "do ."), "told(3)", 3);
    }
}

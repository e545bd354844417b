/** The Terms ahead of ======== 1: which refusal comes first, and that refused calls change nothing. */
final class RefusalEdges {
    private static final int UNKNOWN = ChalkMarket.UNKNOWN;
    private static final int OUTSIDE = ChalkMarket.OUTSIDE;
    private static final int STATE = ChalkMarket.STATE;
    private static final int FULL = ChalkMarket.FULL;
    private static final int NO = ChalkMarket.NO;
    private static final long LOST_OUTSIDE = -1000000000000000002L;

    /** Nothing in it is as at first, and each IMAGE is another. */
    static final Story BUSY = Story.of("one(0, 1, 7, 10)", "one(1, 1, 5, 2)", "one(2, -1, 3, 98)", "one(7, 6, 9, 99)",
        "cart(0, 0)", "cart(1, 1)", "cart(3, 9)", "day(6)", "seen(1, 0, 0)", "image(0)", "seen(0, 3, 1)", "one(3, 4, 0, 0)",
        "do .", "image(1)", "day(2)", "one(4, 2, 2, 2)", "cart(0, 2)", "seen(4, 4, 0)");
    private static final Story GOOD = BUSY.and("write A0A$Bc3.");
    private static final Story FAULTY = BUSY.and("write A0A$");
    private static final Story IN_VAIN = BUSY.and("write A0.A0c3");
    private static final Story FULL_PAD = BUSY.and("write " + ".".repeat(58) + "A0");
    private static final Story FULL_SIGHTS = GOOD.and("seen(9, 8, 0)", "seen(7, 9, 1)", "seen(2, 0, 0)", "seen(1, 3, 1)",
        "seen(4, 2, 0)");
    private static final Story NOTHING_FITS = GOOD.and("seen(9, 0, 1)");

    private RefusalEdges() {
    }

    static void look(Edges edges) {
        lastCall(edges);
        numbers(edges);
        firstThatFits(edges);
        changeNothing(edges);
        fractions(edges);
        edges.noEdge("Terms", "Sets are bits.");
    }

    private static void lastCall(Edges edges) {
        edges.quote("What it is", "An object is used for at most 512 calls after it has been made; "
            + "what later calls answer is free.");
        Story story = Story.of("image(0)", "day(5)");
        for (int calls = 2; calls < 511; calls++) {
            story = story.and(calls % 2 == 0 ? "done()" : "wipe()");
        }
        edges.is(story, "day(6)", 5);
        edges.is(story, "say(65)", 1);
        edges.is(story, "restore(0)", 1);
    }

    private static void numbers(Edges edges) {
        edges.quote("Terms", "UNKNOWN -1 (there is no such ONE, CART), OUTSIDE -2 (another number is not as told), "
            + "NO -5 (as told), STATE -3 (as told), FULL -4.");
        edges.same("UNKNOWN", UNKNOWN, -1);
        edges.same("OUTSIDE", OUTSIDE, -2);
        edges.same("STATE", STATE, -3);
        edges.same("FULL", FULL, -4);
        edges.same("NO", NO, -5);
        edges.same("NONE", ChalkMarket.NONE, -6);
        edges.same("LOST", ChalkMarket.LOST, -1000000000000000000L);
    }

    private static void firstThatFits(Edges edges) {
        edges.quote("Terms", "Calls that are refused answer, the first of these that fits:");
        Story[] stories = {Story.of(), GOOD, FAULTY, IN_VAIN};
        for (Story story : stories) {
            edges.refused(story, "one(#, 7, 10, 100)", UNKNOWN, -1, 8);
            edges.refused(story, "cart(#, 10)", UNKNOWN, -1, 4);
            edges.refused(story, "behind(#, 3)", UNKNOWN, -1, 8);
            edges.refused(story, "behind(#, 0)", UNKNOWN, -1, 8);
            edges.refused(story, "comes(#)", UNKNOWN, -1, 4);
            edges.refused(story, "behind(0, #)", OUTSIDE, -1, 3);
            edges.refused(story, "judge(#)", OUTSIDE, -1, 2);
            edges.refused(story, "then(#)", OUTSIDE, -1, 7);
        }
        edges.refused(Story.of(), "restore(#)", OUTSIDE, -1, 2);
        edges.refused(FULL_PAD, "say(#)", OUTSIDE, 32, 127);
        edges.refused(FULL_PAD, "say(#)", FULL, 33, 46, 65, 126);
        edges.refused(FULL_SIGHTS, "seen(#, 0, 0)", OUTSIDE, -1, 10);
        edges.refused(FULL_SIGHTS, "seen(0, #, 0)", OUTSIDE, -1, 10);
        edges.refused(FULL_SIGHTS, "seen(0, 0, #)", OUTSIDE, -1, 3);
        edges.refused(FULL_SIGHTS, "seen(#, 9, 2)", FULL, 0, 9);
        edges.refused(NOTHING_FITS, "ask(#)", OUTSIDE, -1, 2);
    }

    private static void changeNothing(Edges edges) {
        edges.quote("Terms", "They change nothing.");
        edges.differs(BUSY, Story.of());
        edges.differs(GOOD, BUSY);
        edges.differs(FULL_SIGHTS, GOOD);
        Story[] stories = {GOOD, FAULTY, IN_VAIN, FULL_PAD, FULL_SIGHTS, NOTHING_FITS};
        String[] outside = {"one(0, 7, 0, 0)", "one(7, 0, 10, 0)", "one(3, 0, 0, 100)", "one(0, -2, 1, 1)", "one(0, 0, -1, 1)",
            "one(0, 0, 1, -1)", "cart(0, 10)", "cart(3, -1)", "day(7)", "day(-1)", "say(32)", "say(127)", "judge(2)",
            "behind(0, 3)", "then(7)", "chalk(7)", "sway(7)", "needed(12, 1, 1, 0, 0)", "needed(1, 1, 82, 0, 0)",
            "needed(1, 1, 1, 1, 0)", "trade(12, 1, 1, 0)", "trade(1, 1, 10, 0)", "seen(10, 0, 0)", "seen(0, 10, 0)",
            "seen(0, 0, 3)", "ask(2)", "cakes(100, 0, 0)", "cakes(0, 100, 0)", "year(10000, 1, 0)", "year(0, 100, 0)",
            "image(2)", "image(-1)", "restore(2)", "restore(-1)", "told(6)", "told(44)"};
        for (Story story : stories) {
            for (String call : outside) {
                edges.changesNothing(story, call, OUTSIDE);
            }
            edges.changesNothing(story, "one(8, 0, 0, 0)", UNKNOWN);
            edges.changesNothing(story, "cart(4, 0)", UNKNOWN);
            edges.changesNothing(story, "rung(13, 1, 0, 0, 0)", LOST_OUTSIDE);
        }
        edges.changesNothing(FULL_PAD, "say(46)", FULL);
        edges.changesNothing(FULL_SIGHTS, "seen(0, 0, 2)", FULL);
        edges.changesNothing(Story.of("one(0, 1, 2, 3)", "image(0)", "write A0"), "restore(1)", STATE);
        edges.changesNothing(Story.of("one(0, 1, 2, 3)", "image(1)", "write A0"), "restore(0)", STATE);
        Story[] notDone = {FAULTY, IN_VAIN};
        String[] no = {"done()", "behind(0, 0)", "behind(7, 2)", "comes(0)", "comes(3)", "then(0)", "then(6)"};
        for (Story story : notDone) {
            for (String call : no) {
                edges.changesNothing(story, call, NO);
            }
        }
        edges.refused(FAULTY, "judge(#)", NO, 0, 1);
    }

    private static void fractions(Edges edges) {
        edges.quote("Terms", "Fractions are told in lowest terms by part: 0 the upper, 1 the lower number; "
            + "refused with LOST and the refusal.");
        Story fresh = Story.of();
        // 1 of 4 and of 4096; none of 16807; all of 1; 6 of 27; 9 of 16; 25 of 36; 4 of 8.
        fraction(edges, 2, 2, 1, 0, 1, 4);
        fraction(edges, 12, 2, 0, 1, 1, 4096);
        fraction(edges, 5, 7, 6, 0, 0, 1);
        fraction(edges, 12, 1, 0, 0, 1, 1);
        fraction(edges, 12, 1, 0, 1, 0, 1);
        fraction(edges, 3, 3, 2, 0, 2, 9);
        fraction(edges, 2, 4, 0, 1, 9, 16);
        fraction(edges, 2, 6, 0, 1, 25, 36);
        fraction(edges, 3, 2, 0, 0, 1, 2);
        edges.limits(fresh, "rung(3, 3, 2, 0, #)", 0, 1, LOST_OUTSIDE);
        edges.limits(fresh, "rung(3, 3, 2, 1, #)", 0, 1, LOST_OUTSIDE);
        edges.is(fresh, "rung(13, 8, 8, 2, 2)", ChalkMarket.LOST + OUTSIDE);
    }

    private static void fraction(Edges edges, int n, int m, int d, int what, long upper, long lower) {
        String call = "rung(" + n + ", " + m + ", " + d + ", " + what + ", ";
        edges.is(Story.of(), call + "0)", upper);
        edges.is(Story.of(), call + "1)", lower);
    }
}

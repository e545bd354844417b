/** Promises 14 to 26, sentence by sentence. */
final class Promises14To26Edges {
    private static final int NONE = ChalkMarket.NONE;
    private static final int OUTSIDE = ChalkMarket.OUTSIDE;
    private static final long LOST_OUTSIDE = -1000000000000000002L;
    private static final Story FRESH = Story.of();
    private static final Story BUSY = RefusalEdges.BUSY.and("write A0.A");

    private Promises14To26Edges() {
    }

    static void look(Edges edges) {
        sway(edges);
        needed(edges);
        trade(edges);
        seen(edges);
        forget(edges);
        slates(edges);
        ask(edges);
        cakes(edges);
        rung(edges);
        year(edges);
        image(edges);
        imageKeepsAll(edges);
        restore(edges);
        told(edges);
        toldOutside(edges);
    }

    private static void sway(Edges edges) {
        edges.quote("Promise 14", "SWAY.");
        // Two on DAY 1, one on 2, 4 and 6: who leaves a DAY can go to one ahead of it that has none.
        long[] busy = {0, 2, 1, 1, 2, 2, 3};
        for (int day = 0; day < 7; day++) {
            edges.is(FRESH, "sway(" + day + ")", day);
            edges.changesNothing(BUSY, "sway(" + day + ")", busy[day]);
        }
        edges.quote("Promise 14", "OUTSIDE.");
        edges.limits(FRESH, "sway(#)", 0, 6, OUTSIDE);
        edges.limits(BUSY, "sway(#)", 0, 6, OUTSIDE);
    }

    private static void needed(Edges edges) {
        edges.quote("Promise 15", "NEEDED: of the i-th (what = 0), of all (1; i is no matter, but as told).");
        for (int i = 0; i < 3; i++) {
            edges.changesNothing(BUSY, "needed(321, 3, 4, " + i + ", 0)", i == 0 ? 3 : 1);
            edges.changesNothing(BUSY, "needed(321, 3, 4, " + i + ", 1)", 3);
        }
        edges.quote("Promise 15", "OUTSIDE: n, a row of more digits, q, i 0 to n less 1, what.");
        int most = 0;
        for (int n = 1; n <= 9; n++) {
            most = 10 * most + 9;
            for (int what = 0; what < 2; what++) {
                edges.taken(FRESH, "needed(" + most + ", " + n + ", 81, 0, " + what + ")");
                edges.refused(FRESH, "needed(#, " + n + ", 81, 0, " + what + ")", OUTSIDE, most + 1, -1, -most);
                edges.limits(FRESH, "needed(1, " + n + ", 1, #, " + what + ")", 0, n - 1, OUTSIDE);
            }
        }
        edges.refused(FRESH, "needed(#, 9, 1, 0, 0)", OUTSIDE, Integer.MAX_VALUE, Integer.MIN_VALUE);
        for (int what = 0; what < 2; what++) {
            edges.limits(BUSY, "needed(0, #, 1, 0, " + what + ")", 1, 9, OUTSIDE);
            edges.limits(BUSY, "needed(1, 1, #, 0, " + what + ")", 1, 81, OUTSIDE);
        }
        edges.limits(BUSY, "needed(1, 1, 1, 0, #)", 0, 1, OUTSIDE);
    }

    private static void trade(Edges edges) {
        edges.quote("Promise 16", "TRADE: how much (what = 0), how few times (1).");
        edges.changesNothing(BUSY, "trade(715364, 6, 9, 0)", 7);
        edges.changesNothing(BUSY, "trade(715364, 6, 9, 1)", 2);
        edges.changesNothing(BUSY, "trade(715364, 6, 0, 0)", 0);
        edges.changesNothing(BUSY, "trade(715364, 6, 0, 1)", 0);
        edges.quote("Promise 16", "OUTSIDE: n, a row of more digits, k, what.");
        int most = 0;
        for (int n = 1; n <= 9; n++) {
            most = 10 * most + 9;
            for (int what = 0; what < 2; what++) {
                edges.is(FRESH, "trade(" + most + ", " + n + ", 9, " + what + ")", 0);
                edges.refused(FRESH, "trade(#, " + n + ", 9, " + what + ")", OUTSIDE, most + 1, -1, -most);
            }
        }
        edges.refused(FRESH, "trade(#, 9, 1, 0)", OUTSIDE, Integer.MAX_VALUE, Integer.MIN_VALUE);
        for (int what = 0; what < 2; what++) {
            edges.limits(BUSY, "trade(0, #, 1, " + what + ")", 1, 9, OUTSIDE);
            edges.limits(BUSY, "trade(19, 2, #, " + what + ")", 0, 9, OUTSIDE);
        }
        edges.limits(BUSY, "trade(19, 2, 1, #)", 0, 1, OUTSIDE);
    }

    private static void seen(Edges edges) {
        edges.quote("Promise 17", "A SIGHT more: how many.");
        Story story = FRESH;
        for (int count = 1; count <= 8; count++) {
            edges.is(story, "seen(0, 0, 2)", count);
            story = story.and("seen(0, 0, 2)");
            edges.is(story, "told(5)", count);
            edges.is(story, "slates(-1)", 5);
        }
        // Whatever is seen is taken, though nothing fits then.
        edges.is(FRESH.and("seen(9, 0, 1)"), "seen(9, 0, 1)", 2);
        edges.quote("Promise 17", "OUTSIDE; FULL.");
        Story[] stories = {FRESH, BUSY, story.and("forget()")};
        for (Story free : stories) {
            edges.limits(free, "seen(#, 0, 0)", 0, 9, OUTSIDE);
            edges.limits(free, "seen(9, #, 2)", 0, 9, OUTSIDE);
            edges.limits(free, "seen(9, 9, #)", 0, 2, OUTSIDE);
        }
        edges.refused(story, "seen(#, 0, 0)", ChalkMarket.FULL, 0, 9);
        edges.refused(story, "seen(0, #, 1)", ChalkMarket.FULL, 0, 9);
        edges.refused(story, "seen(0, 0, #)", ChalkMarket.FULL, 0, 1, 2);
        edges.refused(story, "seen(#, 0, 0)", OUTSIDE, -1, 10);
        edges.refused(story, "seen(0, #, 1)", OUTSIDE, -1, 10);
        edges.refused(story, "seen(0, 0, #)", OUTSIDE, -1, 3);
    }

    private static void forget(Edges edges) {
        edges.quote("Promise 18", "SIGHTS go: how many there were.");
        edges.changesNothing(FRESH, "forget()", 0);
        edges.is(BUSY, "forget()", 3);
        edges.is(BUSY.and("forget()"), "forget()", 0);
        edges.is(BUSY.and("forget()"), "told(5)", 0);
        edges.is(BUSY.and("forget()"), "slates(-1)", 45);
        edges.is(BUSY.and("forget()"), "told(0)", 4);
        Story full = FRESH;
        for (int i = 0; i < 8; i++) {
            full = full.and("seen(" + i + ", 0, 1)");
        }
        edges.is(full, "forget()", 8);
        edges.is(full.and("seen(0, 0, 0)"), "forget()", 8);
        edges.is(full.and("forget()"), "seen(0, 0, 0)", 1);
        edges.sameShown(full.and("forget()"), FRESH);
        edges.sameShown(full.and("forget()", "seen(0, 0, 2)"), FRESH.and("seen(0, 0, 2)"));
    }

    private static void slates(Edges edges) {
        edges.quote("Promise 19", "SLATES: how many (i = -1), the i-th; NONE.");
        edges.changesNothing(FRESH, "slates(-1)", 45);
        edges.changesNothing(FRESH, "slates(0)", 0);
        edges.changesNothing(FRESH, "slates(44)", 80);
        edges.changesNothing(FRESH, "slates(45)", NONE);
        edges.changesNothing(FRESH, "slates(MAX)", NONE);
        // No OUTSIDE is told: there is no such one.
        edges.changesNothing(FRESH, "slates(-2)", NONE);
        edges.changesNothing(FRESH, "slates(MIN)", NONE);
        Story same = FRESH.and("seen(3, 3, 2)");
        edges.is(same, "slates(-1)", 5);
        edges.is(same, "slates(4)", 44);
        edges.is(same, "slates(5)", NONE);
        edges.is(same, "slates(-2)", NONE);
        Story nothing = FRESH.and("seen(0, 9, 0)");
        edges.changesNothing(nothing, "slates(-1)", 0);
        edges.changesNothing(nothing, "slates(0)", NONE);
        edges.changesNothing(nothing, "slates(-2)", NONE);
    }

    private static void ask(Edges edges) {
        edges.quote("Promise 20", "ASK: what (what = 0), how many (1); NONE: nothing fits.");
        edges.changesNothing(FRESH, "ask(0)", 0);
        edges.changesNothing(FRESH, "ask(1)", 20);
        Story one = FRESH.and("seen(8, 0, 2)");
        edges.changesNothing(one, "ask(0)", 0);
        edges.changesNothing(one, "ask(1)", 1);
        Story nothing = FRESH.and("seen(8, 0, 1)");
        edges.changesNothing(nothing, "ask(0)", NONE);
        edges.changesNothing(nothing, "ask(1)", NONE);
        edges.is(nothing.and("forget()"), "ask(1)", 20);
        // It may be asked though there is room for no SIGHT more.
        Story full = FRESH;
        for (int i = 0; i < 8; i++) {
            full = full.and("seen(9, 0, 0)");
        }
        edges.is(full, "ask(0)", 0);
        edges.is(full, "ask(1)", 20);
        edges.quote("Promise 20", "OUTSIDE.");
        edges.limits(FRESH, "ask(#)", 0, 1, OUTSIDE);
        edges.limits(nothing, "ask(#)", 0, 1, OUTSIDE);
    }

    private static void cakes(Edges edges) {
        edges.quote("Promise 21", "CAKES: whether (what = 0), how many (1; NONE).");
        edges.changesNothing(BUSY, "cakes(7, 2, 0)", 1);
        edges.changesNothing(BUSY, "cakes(7, 2, 1)", 2);
        edges.changesNothing(BUSY, "cakes(7, 1, 0)", 0);
        edges.changesNothing(BUSY, "cakes(7, 1, 1)", NONE);
        edges.changesNothing(BUSY, "cakes(0, 0, 0)", 0);
        edges.changesNothing(BUSY, "cakes(0, 0, 1)", NONE);
        edges.quote("Promise 21", "OUTSIDE.");
        for (int what = 0; what < 2; what++) {
            edges.limits(BUSY, "cakes(#, 0, " + what + ")", 0, 99, OUTSIDE);
            edges.limits(BUSY, "cakes(0, #, " + what + ")", 0, 99, OUTSIDE);
        }
        edges.limits(BUSY, "cakes(99, 99, #)", 0, 1, OUTSIDE);
        edges.limits(BUSY, "cakes(0, 0, #)", 0, 1, OUTSIDE);
    }

    private static void rung(Edges edges) {
        edges.quote("Promise 22", "RUNG: THE DAY (what = 0), no CHALK (1).");
        edges.changesNothing(BUSY, "rung(3, 3, 2, 0, 0)", 2);
        edges.changesNothing(BUSY, "rung(3, 3, 2, 0, 1)", 9);
        edges.changesNothing(BUSY, "rung(3, 3, 2, 1, 0)", 8);
        edges.changesNothing(BUSY, "rung(3, 3, 2, 1, 1)", 27);
        edges.quote("Promise 22", "OUTSIDE.");
        edges.limits(BUSY, "rung(#, 7, 6, 0, 0)", 0, 12, LOST_OUTSIDE);
        edges.limits(BUSY, "rung(12, #, 0, 0, 0)", 1, 7, LOST_OUTSIDE);
        edges.limits(BUSY, "rung(12, 7, #, 1, 0)", 0, 6, LOST_OUTSIDE);
        edges.limits(BUSY, "rung(12, 1, #, 1, 1)", 0, 0, LOST_OUTSIDE);
        edges.limits(BUSY, "rung(12, 7, 6, #, 0)", 0, 1, LOST_OUTSIDE);
        edges.limits(BUSY, "rung(0, 1, 0, 1, #)", 0, 1, LOST_OUTSIDE);
    }

    private static void year(Edges edges) {
        edges.quote("Promise 23", "A YEAR: how often (what = 0), COIN (1), MARKETS (2).");
        Story eve = FRESH.and("day(6)", "cart(0, 0)", "cart(1, 0)", "one(0, 3, 5, 77)");
        edges.changesNothing(eve, "year(4, 1, 0)", 2);
        edges.changesNothing(eve, "year(4, 1, 1)", 77);
        edges.changesNothing(eve, "year(4, 1, 2)", 1);
        // Sold and held in it alone, not before it.
        edges.changesNothing(eve.and("do .", "day(1)"), "year(4, 1, 0)", 0);
        edges.changesNothing(eve.and("do .", "day(1)"), "year(4, 1, 2)", 0);
        edges.quote("Promise 23", "OUTSIDE.");
        edges.limits(BUSY, "year(#, 2, 0)", 0, 9999, OUTSIDE);
        for (int what = 0; what < 3; what++) {
            edges.limits(BUSY, "year(9999, #, " + what + ")", 1, 99, OUTSIDE);
            edges.refused(BUSY, "year(#, 1, " + what + ")", OUTSIDE, -1, 10000);
        }
        edges.limits(BUSY, "year(0, 1, #)", 0, 2, OUTSIDE);
    }

    private static void image(Edges edges) {
        edges.quote("Promise 24", "All but the PAD is kept in an IMAGE (0, 1): 1.");
        for (int n = 0; n < 2; n++) {
            String keep = "image(" + n + ")";
            String back = "restore(" + n + ")";
            edges.is(FRESH, keep, 1);
            edges.is(BUSY, keep, 1);
            edges.is(FRESH.and(keep), keep, 1);
            edges.is(FRESH.and(keep, "write A0"), back, 1);
            edges.is(FRESH.and(keep, "write A0", back), "told(0)", 2);
            edges.is(FRESH.and("write A0", keep, "wipe()", back), "told(0)", 0);
            edges.is(FRESH.and("write A0", keep, "wipe()", "write B", back), "fault()", 1);
            edges.is(FRESH.and(keep, "write A6", back), "behind(0, 0)", 6);
            edges.is(FRESH.and(keep), "restore(" + (1 - n) + ")", ChalkMarket.STATE);
            // The later one is kept in place of the earlier one.
            edges.is(FRESH.and("day(1)", keep, "day(2)", keep, "day(3)", back), "told(1)", 2);
        }
        edges.is(FRESH.and("day(1)", "image(0)", "day(2)", "image(1)", "day(3)", "restore(0)"), "told(1)", 1);
        edges.is(FRESH.and("day(1)", "image(0)", "day(2)", "image(1)", "day(3)", "restore(1)"), "told(1)", 2);
        edges.is(FRESH.and("day(1)", "image(0)", "day(2)", "image(1)", "restore(0)", "restore(1)"), "told(1)", 2);
        edges.quote("Promise 24", "OUTSIDE.");
        edges.limits(FRESH, "image(#)", 0, 1, OUTSIDE);
        edges.limits(BUSY, "image(#)", 0, 1, OUTSIDE);
    }

    /** Each thing that can be kept, changed to its least and its most behind the image. */
    private static void imageKeepsAll(Edges edges) {
        edges.quote("Promise 25", "It is as it was when it was kept: 1.");
        String[] changes = {"one(0, 6, 5, 10)", "one(0, -1, 0, 10)", "one(7, -1, 9, 10)", "one(7, -1, 5, 0)", "one(0, -1, 5, 99)",
            "one(7, 0, 0, 0)", "one(3, 3, 3, 3)", "cart(0, 0)", "cart(3, 9)", "day(6)", "do .", "do .......", "seen(0, 0, 2)",
            "seen(9, 0, 1)", "do A$B", "do " + ".".repeat(60)};
        for (String change : changes) {
            for (int n = 0; n < 2; n++) {
                String keep = "image(" + n + ")";
                String back = "restore(" + n + ")";
                Story before = FRESH.and("day(6)", "image(1)", "image(0)", "day(0)", keep);
                edges.is(before.and(change), back, 1);
                edges.differs(before.and(change), before);
                edges.sameShown(before.and(change, back), before);
                edges.sameShown(before.and(change, keep, "day(4)", "cart(1, 4)", back), before.and(change, keep));
                // It is still kept behind a restore, and what is done then leaves it alone.
                edges.sameShown(before.and(back, change, back), before);
                edges.is(before.and(back, change), back, 1);
            }
        }
        Story eight = FRESH;
        for (int i = 0; i < 8; i++) {
            eight = eight.and("seen(" + i + ", 9, 1)");
        }
        Story kept = eight.and("image(0)");
        edges.sameShown(kept.and("forget()", "restore(0)"), kept);
        edges.sameShown(kept.and("forget()", "seen(0, 0, 2)", "restore(0)"), kept);
        edges.is(kept.and("forget()", "restore(0)"), "seen(0, 0, 0)", ChalkMarket.FULL);
        // All eight come back in place of eight others, the eighth too.
        Story others = kept.and("forget()");
        for (int i = 0; i < 8; i++) {
            others = others.and("seen(9, 0, 0)");
        }
        edges.is(others, "slates(-1)", 45);
        edges.is(others.and("restore(0)"), "slates(-1)", 29);
        edges.sameShown(others.and("restore(0)"), kept);
        edges.is(FRESH.and("image(0)", "seen(0, 0, 2)", "restore(0)"), "told(5)", 0);
        // Morning 99 and what was sold come back, and go.
        Story late = FRESH.and("image(0)", "do " + ".".repeat(60), "do " + ".".repeat(39), "image(1)");
        edges.is(late.and("write ."), "judge(1)", 8);
        edges.is(late.and("write .", "restore(0)"), "judge(1)", NONE);
        edges.is(late.and("write .", "restore(0)", "restore(1)"), "judge(1)", 8);
        edges.is(late.and("restore(0)"), "told(3)", 0);
        edges.is(late.and("restore(0)", "restore(1)"), "told(3)", late.answer("told(3)"));
    }

    private static void restore(Edges edges) {
        edges.quote("Promise 25", "OUTSIDE; STATE: it was not.");
        edges.changesNothing(FRESH, "restore(0)", ChalkMarket.STATE);
        edges.changesNothing(FRESH, "restore(1)", ChalkMarket.STATE);
        Story busy = FRESH.and("one(0, 1, 2, 3)", "cart(0, 0)", "day(5)", "seen(0, 0, 2)", "write A0A");
        for (int n = 0; n < 2; n++) {
            edges.changesNothing(busy, "restore(" + n + ")", ChalkMarket.STATE);
            edges.changesNothing(busy.and("image(" + (1 - n) + ")"), "restore(" + n + ")", ChalkMarket.STATE);
            edges.is(busy.and("restore(" + n + ")", "image(" + n + ")"), "restore(" + n + ")", 1);
        }
        // An image that was refused keeps nothing.
        edges.is(FRESH.and("image(-1)", "image(2)"), "restore(0)", ChalkMarket.STATE);
        edges.is(FRESH.and("image(-1)", "image(2)"), "restore(1)", ChalkMarket.STATE);
        edges.refused(FRESH, "restore(#)", OUTSIDE, -1, 2, Integer.MIN_VALUE, Integer.MAX_VALUE);
        edges.limits(BUSY, "restore(#)", 0, 1, OUTSIDE);
    }

    private static void told(Edges edges) {
        edges.quote("Promise 26", "0 signs, 1 which DAY it is, 2 THE DAY, 3 how often CARTS SOLD in all, 4 the morning, "
            + "5 SIGHTS; 10 and a ONE: of which DAY it THINKS (NONE); 20 and a ONE: how SURE; 30 and a ONE: COIN; "
            + "40 and a CART: how FAR.");
        long[] first = {4, 2, 0, 1, 1, 3};
        long[] thinks = {1, 1, NONE, 4, 2, NONE, NONE, 6};
        long[] sure = {8, 6, 4, 1, 2, 6, 6, 9};
        long[] coin = {10, 2, 98, 0, 2, 10, 10, 99};
        long[] far = {2, 1, 3, 9};
        for (int what = 0; what < 6; what++) {
            edges.changesNothing(BUSY, "told(" + what + ")", first[what]);
        }
        for (int one = 0; one < 8; one++) {
            edges.changesNothing(BUSY, "told(" + (10 + one) + ")", thinks[one]);
            edges.changesNothing(BUSY, "told(" + (20 + one) + ")", sure[one]);
            edges.changesNothing(BUSY, "told(" + (30 + one) + ")", coin[one]);
        }
        for (int cart = 0; cart < 4; cart++) {
            edges.changesNothing(BUSY, "told(" + (40 + cart) + ")", far[cart]);
        }
        // In all: in several texts, not in the last one alone.
        edges.is(BUSY.and("wipe()", "cart(0, 0)", "cart(1, 0)", "day(6)", "do ."), "told(3)", 3);
        edges.is(FRESH.and("write " + ".".repeat(60)), "told(0)", 60);
    }

    private static void toldOutside(Edges edges) {
        edges.quote("Promise 26", "OUTSIDE.");
        edges.limits(BUSY, "told(#)", 0, 5, OUTSIDE);
        edges.limits(BUSY, "told(#)", 10, 17, OUTSIDE);
        edges.limits(BUSY, "told(#)", 20, 27, OUTSIDE);
        edges.limits(BUSY, "told(#)", 30, 37, OUTSIDE);
        edges.limits(BUSY, "told(#)", 40, 43, OUTSIDE);
        edges.refused(BUSY, "told(#)", OUTSIDE, 7, 8, 19, 29, 39, 45, 47, 48, 50, 53, 100, -10, -40);
    }
}

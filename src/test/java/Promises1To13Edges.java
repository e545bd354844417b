/** Promises 1 to 13, sentence by sentence. */
final class Promises1To13Edges {
    private static final int NONE = ChalkMarket.NONE;
    private static final int UNKNOWN = ChalkMarket.UNKNOWN;
    private static final int OUTSIDE = ChalkMarket.OUTSIDE;
    private static final int NO = ChalkMarket.NO;
    private static final Story FRESH = Story.of();
    private static final Story BUSY = RefusalEdges.BUSY;
    private static final Story FAULTY = BUSY.and("write A0.A");
    private static final Story IN_VAIN = BUSY.and("write A0.A0");

    private Promises1To13Edges() {
    }

    static void look(Edges edges) {
        newObject(edges);
        one(edges);
        cart(edges);
        day(edges);
        say(edges);
        wipe(edges);
        fault(edges);
        judge(edges);
        done(edges);
        behind(edges);
        comes(edges);
        then(edges);
        chalk(edges);
    }

    private static void newObject(Edges edges) {
        edges.quote("Promise 1", "All THINK of none.");
        for (int one = 0; one < 8; one++) {
            edges.is(FRESH, "told(" + (10 + one) + ")", NONE);
        }
        for (int what = 0; what < 6; what++) {
            edges.is(FRESH, "told(" + what + ")", 0);
        }
        edges.is(FRESH, "wipe()", 0);
        edges.is(FRESH, "forget()", 0);
        edges.is(FRESH, "restore(0)", ChalkMarket.STATE);
        edges.is(FRESH, "restore(1)", ChalkMarket.STATE);
    }

    private static void one(Edges edges) {
        edges.quote("Promise 2", "Of which DAY a ONE THINKS (-1: of none), how SURE, COIN: "
            + "100 times how SURE it was, and its COIN.");
        for (int one = 0; one < 8; one++) {
            String call = "one(" + one + ", ";
            edges.is(FRESH, call + "0, 0, 0)", 510);
            edges.is(FRESH.and(call + "0, 0, 0)"), call + "6, 9, 99)", 0);
            edges.is(FRESH.and(call + "6, 9, 99)"), call + "0, 0, 0)", 999);
            edges.is(FRESH.and(call + "6, 0, 99)"), call + "0, 0, 0)", 99);
            edges.is(FRESH.and(call + "6, 9, 0)"), call + "0, 0, 0)", 900);
            edges.is(FRESH.and(call + "6, 9, 99)", call + "-1, 0, 0)"), "told(" + (10 + one) + ")", NONE);
            // To be told so again is no fault, and leaves all others as they were.
            edges.changesNothing(FRESH, call + "-1, 5, 10)", 510);
            edges.changesNothing(FRESH.and(call + "6, 9, 99)"), call + "6, 9, 99)", 999);
        }
        edges.quote("Promise 2", "UNKNOWN; OUTSIDE.");
        edges.limits(BUSY, "one(#, -1, 0, 0)", 0, 7, UNKNOWN);
        edges.limits(BUSY, "one(2, #, 0, 0)", -1, 6, OUTSIDE);
        edges.limits(BUSY, "one(2, -1, #, 0)", 0, 9, OUTSIDE);
        edges.limits(BUSY, "one(2, -1, 0, #)", 0, 99, OUTSIDE);
        edges.refused(BUSY, "one(#, 7, -1, 100)", UNKNOWN, -1, 8);
        edges.refused(BUSY, "one(#, -2, 10, -1)", UNKNOWN, -1, 8);
        // One number that is not as told is enough, whichever it is.
        edges.changesNothing(BUSY, "one(0, 7, 9, 99)", OUTSIDE);
        edges.changesNothing(BUSY, "one(0, 6, 10, 99)", OUTSIDE);
        edges.changesNothing(BUSY, "one(0, 6, 9, 100)", OUTSIDE);
    }

    private static void cart(Edges edges) {
        edges.quote("Promise 3", "How FAR a CART is: how FAR it was.");
        for (int cart = 0; cart < 4; cart++) {
            String call = "cart(" + cart + ", ";
            edges.is(FRESH, call + "0)", 3);
            edges.is(FRESH.and(call + "0)"), call + "9)", 0);
            edges.is(FRESH.and(call + "9)"), call + "0)", 9);
            edges.changesNothing(FRESH, call + "3)", 3);
            edges.is(FRESH.and(call + "0)"), "told(" + (43 - cart) + ")", 3);
        }
        edges.quote("Promise 3", "UNKNOWN; OUTSIDE.");
        edges.limits(BUSY, "cart(#, 9)", 0, 3, UNKNOWN);
        edges.limits(BUSY, "cart(2, #)", 0, 9, OUTSIDE);
        edges.refused(BUSY, "cart(#, 10)", UNKNOWN, -1, 4);
        edges.refused(BUSY, "cart(#, -1)", UNKNOWN, -1, 4);
    }

    private static void day(Edges edges) {
        edges.quote("Promise 4", "Which DAY it is: which it was.");
        for (int day = 0; day < 7; day++) {
            edges.is(FRESH, "day(" + day + ")", 0);
            edges.is(FRESH.and("day(" + day + ")"), "day(0)", day);
            edges.changesNothing(FRESH.and("day(" + day + ")"), "day(" + day + ")", day);
        }
        // It becomes that DAY without a morning, and without a MARKET.
        edges.is(FRESH.and("cart(0, 0)", "day(6)", "day(0)"), "told(3)", 0);
        edges.is(FRESH.and("day(6)", "day(0)"), "told(4)", 0);
        edges.is(FRESH.and("day(6)", "day(0)"), "told(40)", 3);
        edges.quote("Promise 4", "OUTSIDE.");
        edges.limits(BUSY, "day(#)", 0, 6, OUTSIDE);
    }

    private static void say(Edges edges) {
        edges.quote("Promise 5", "A sign more: how many.");
        Story pad = FRESH;
        for (int count = 1; count <= 60; count++) {
            edges.is(pad, "say(46)", count);
            edges.is(pad, "told(0)", count - 1);
            pad = pad.and("say(46)");
        }
        edges.quote("Promise 5", "OUTSIDE; FULL.");
        edges.limits(FRESH, "say(#)", 33, 126, OUTSIDE);
        edges.limits(BUSY.and("write " + ".".repeat(59)), "say(#)", 33, 126, OUTSIDE);
        edges.refused(pad, "say(#)", ChalkMarket.FULL, 33, 46, 65, 126);
        edges.refused(pad, "say(#)", OUTSIDE, 32, 127, 0, -1, 10, 255);
        edges.is(pad.and("say(46)", "say(65)"), "done()", 60);
        edges.is(pad.and("say(46)", "done()"), "say(46)", 1);
    }

    private static void wipe(Edges edges) {
        edges.quote("Promise 6", "Signs go: how many there were.");
        edges.changesNothing(BUSY, "wipe()", 0);
        edges.is(FRESH.and("write A"), "wipe()", 1);
        edges.is(FRESH.and("write A", "wipe()"), "wipe()", 0);
        edges.is(FRESH.and("write " + ".".repeat(59)), "wipe()", 59);
        Story full = BUSY.and("write " + ".".repeat(60));
        edges.is(full, "wipe()", 60);
        edges.is(full.and("say(46)"), "wipe()", 60);
        edges.sameShown(full.and("wipe()"), BUSY);
        edges.sameShown(FAULTY.and("wipe()"), BUSY);
        edges.sameShown(full.and("wipe()", "write A0"), BUSY.and("write A0"));
    }

    private static void fault(Edges edges) {
        edges.quote("Promise 7", "THE FAULT; NONE.");
        edges.changesNothing(BUSY, "fault()", NONE);
        edges.changesNothing(BUSY.and("write A0"), "fault()", NONE);
        edges.changesNothing(FAULTY, "fault()", 4);
        edges.changesNothing(IN_VAIN, "fault()", NONE);
        edges.is(FRESH.and("write A", "fault()", "write 0"), "fault()", NONE);
        edges.is(FRESH.and("write x", "fault()", "write A0"), "fault()", 0);
        for (int sign = 33; sign <= 126; sign++) {
            boolean letter = sign >= 'A' && sign <= 'H';
            boolean deed = sign >= '0' && sign <= '6' || sign == '-' || sign == '+';
            boolean half = sign == '>' || sign == '$';
            edges.is(FRESH.and("say(" + sign + ")"), "fault()", sign == '.' ? NONE : letter || sign == 'c' ? 1 : 0);
            edges.is(FRESH.and("write H", "say(" + sign + ")"), "fault()", deed ? NONE : half ? 2 : 1);
            edges.is(FRESH.and("write A>", "say(" + sign + ")"), "fault()", letter ? NONE : 2);
            edges.is(FRESH.and("write A$", "say(" + sign + ")"), "fault()", letter ? NONE : 2);
            edges.is(FRESH.and("write c", "say(" + sign + ")"), "fault()", sign >= '0' && sign <= '3' ? NONE : 1);
        }
    }

    private static void judge(Edges edges) {
        edges.quote("Promise 8", "JUDGED: the ACT (what = 0), why (1); NONE.");
        edges.changesNothing(BUSY, "judge(0)", NONE);
        edges.changesNothing(BUSY, "judge(1)", NONE);
        edges.changesNothing(BUSY.and("write A0."), "judge(0)", NONE);
        edges.changesNothing(BUSY.and("write A0."), "judge(1)", NONE);
        edges.changesNothing(IN_VAIN, "judge(0)", 2);
        edges.changesNothing(IN_VAIN, "judge(1)", 1);
        edges.changesNothing(BUSY.and("write A1"), "judge(0)", 0);
        edges.changesNothing(BUSY.and("write A1"), "judge(1)", 1);
        edges.quote("Promise 8", "OUTSIDE; NO: there is a FAULT.");
        edges.limits(BUSY, "judge(#)", 0, 1, OUTSIDE);
        edges.limits(IN_VAIN, "judge(#)", 0, 1, OUTSIDE);
        String[] faults = {"A", "A>", "c", "x", "A0x", "A1x", "A0A0A", "A7A0"};
        for (String text : faults) {
            Story story = BUSY.and("write " + text);
            edges.refused(story, "judge(#)", NO, 0, 1);
            edges.refused(story, "judge(#)", OUTSIDE, -1, 2);
        }
    }

    private static void done(Edges edges) {
        edges.quote("Promise 9", "WEEKS on the PAD are DONE (it is empty then): ACTS.");
        edges.changesNothing(BUSY, "done()", 0);
        edges.is(FRESH.and("write ."), "done()", 1);
        edges.is(FRESH.and("write A0"), "done()", 1);
        edges.is(FRESH.and("write A0A+A>BA$Bc0.C+A-"), "done()", 8);
        edges.is(FRESH.and("write " + "A0A1".repeat(15)), "done()", 30);
        edges.is(FRESH.and("write " + "A$BB$A".repeat(10)), "done()", 20);
        edges.is(FRESH.and("write " + ".".repeat(60)), "done()", 60);
        edges.is(FRESH.and("do " + ".".repeat(60)), "told(0)", 0);
        edges.is(FRESH.and("do " + ".".repeat(60)), "fault()", NONE);
        edges.is(FRESH.and("do " + ".".repeat(60)), "done()", 0);
        edges.is(FRESH.and("do " + ".".repeat(60)), "say(46)", 1);
        edges.is(FRESH.and("do A0"), "wipe()", 0);
        // What is DONE is so once, not again by the next done().
        edges.sameShown(FRESH.and("do A+", "done()"), FRESH.and("one(0, -1, 6, 10)"));
        edges.quote("Promise 9", "NO: there is a FAULT, or an ACT that can not be.");
        String[] texts = {"A", "A>", "c", "x", "A0x", "A0B", "A0.A0", "A1", "c0c0c0", ".A0A+A+A+", "A0A>A", "C>A", "C-"};
        for (String text : texts) {
            Story story = BUSY.and("write " + text);
            edges.changesNothing(story, "done()", NO);
            edges.is(story.and("done()"), "wipe()", text.length());
        }
        edges.sameShown(FAULTY.and("done()", "write +"), BUSY.and("write A0.A+"));
    }

    private static void behind(Edges edges) {
        edges.quote("Promise 10", "BEHIND: of which DAY (what = 0; NONE), how SURE (1), COIN (2).");
        for (int one = 0; one < 8; one++) {
            String letter = String.valueOf((char) ('A' + one));
            String other = one == 7 ? "A" : "H";
            edges.is(FRESH, "behind(" + one + ", 0)", NONE);
            edges.is(FRESH, "behind(" + one + ", 1)", 5);
            edges.is(FRESH, "behind(" + one + ", 2)", 10);
            Story story = FRESH.and("write " + letter + "0" + letter + "+" + letter + "$" + other);
            edges.changesNothing(story, "behind(" + one + ", 0)", 0);
            edges.changesNothing(story, "behind(" + one + ", 1)", 6);
            edges.changesNothing(story, "behind(" + one + ", 2)", 7);
            edges.is(story.and("write " + letter + "-"), "behind(" + one + ", 0)", NONE);
        }
        edges.quote("Promise 10", "UNKNOWN; OUTSIDE; NO, as of done().");
        Story[] stories = {FRESH, BUSY, FAULTY, IN_VAIN};
        for (Story story : stories) {
            edges.refused(story, "behind(#, 0)", UNKNOWN, -1, 8, Integer.MIN_VALUE, Integer.MAX_VALUE);
            edges.refused(story, "behind(#, 3)", UNKNOWN, -1, 8);
            edges.refused(story, "behind(0, #)", OUTSIDE, -1, 3, Integer.MIN_VALUE, Integer.MAX_VALUE);
            edges.refused(story, "behind(7, #)", OUTSIDE, -1, 3);
        }
        edges.limits(BUSY, "behind(#, 2)", 0, 7, UNKNOWN);
        edges.limits(BUSY, "behind(7, #)", 0, 2, OUTSIDE);
        for (int what = 0; what < 3; what++) {
            edges.refused(FAULTY, "behind(#, " + what + ")", NO, 0, 7);
            edges.refused(IN_VAIN, "behind(#, " + what + ")", NO, 0, 7);
        }
    }

    private static void comes(Edges edges) {
        edges.quote("Promise 11", "BEHIND: how FAR a CART is.");
        int[] busy = {2, 1, 3, 9};
        for (int cart = 0; cart < 4; cart++) {
            edges.is(FRESH, "comes(" + cart + ")", 3);
            edges.changesNothing(BUSY, "comes(" + cart + ")", busy[cart]);
            edges.changesNothing(BUSY.and("write c" + cart), "comes(" + cart + ")", busy[cart] - 1);
        }
        edges.quote("Promise 11", "UNKNOWN; NO, likewise.");
        edges.limits(BUSY, "comes(#)", 0, 3, UNKNOWN);
        edges.refused(FAULTY, "comes(#)", UNKNOWN, -1, 4);
        edges.refused(IN_VAIN, "comes(#)", UNKNOWN, -1, 4);
        edges.refused(FAULTY, "comes(#)", NO, 0, 1, 2, 3);
        edges.refused(IN_VAIN, "comes(#)", NO, 0, 1, 2, 3);
    }

    private static void then(Edges edges) {
        edges.quote("Promise 12", "BEHIND: which DAY it is (what = 0), THE DAY (1), its CHALK (2), how often CARTS SOLD (3), "
            + "the morning (4), MARKETS (5), the ACT (6; NONE).");
        Story story = PeopleEdges.thinking("01234560").and("day(6)", "cart(0, 0)", "cart(1, 1)", "cart(2, 2)", "cart(3, 9)");
        long[] nothing = {6, 1, 1, 0, 0, 0, NONE};
        long[] noMarket = {0, 1, 1, 0, 1, 0, NONE};
        long[] market = {1, 1, 1, 3, 2, 1, 4};
        for (int what = 0; what < 7; what++) {
            edges.changesNothing(story, "then(" + what + ")", nothing[what]);
            // A morning of DAY 0 brings 1 and 2 into the town; the next, of DAY 1, sells them and 0.
            edges.changesNothing(story.and("write c2."), "then(" + what + ")", noMarket[what]);
            edges.changesNothing(story.and("write c2.H-H0."), "then(" + what + ")", market[what]);
        }
        edges.quote("Promise 12", "OUTSIDE; NO, likewise.");
        edges.limits(BUSY, "then(#)", 0, 6, OUTSIDE);
        edges.refused(FAULTY, "then(#)", OUTSIDE, -1, 7);
        edges.refused(IN_VAIN, "then(#)", OUTSIDE, -1, 7);
        edges.refused(FAULTY, "then(#)", NO, 0, 1, 2, 3, 4, 5, 6);
        edges.refused(IN_VAIN, "then(#)", NO, 0, 1, 2, 3, 4, 5, 6);
    }

    private static void chalk(Edges edges) {
        edges.quote("Promise 13", "CHALK.");
        long[] busy = {0, 2, 1, 0, 1, 0, 1};
        for (int day = 0; day < 7; day++) {
            edges.is(FRESH, "chalk(" + day + ")", 0);
            edges.changesNothing(BUSY, "chalk(" + day + ")", busy[day]);
            edges.is(PeopleEdges.thinking(Integer.toString(day).repeat(8)), "chalk(" + day + ")", 8);
        }
        edges.quote("Promise 13", "OUTSIDE.");
        edges.limits(BUSY, "chalk(#)", 0, 6, OUTSIDE);
        edges.limits(FAULTY, "chalk(#)", 0, 6, OUTSIDE);
    }
}

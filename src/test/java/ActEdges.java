/** The Terms of the WEEKS: signs and ACTS, mornings, THE FAULT, the eight reasons; and ======== 2. */
final class ActEdges {
    private static final int NONE = ChalkMarket.NONE;
    private static final int NO = ChalkMarket.NO;
    private static final Story FRESH = Story.of();
    private static final Story MORNING_98 = FRESH.and("do " + ".".repeat(60), "do " + ".".repeat(38));
    private static final Story MORNING_99 = MORNING_98.and("do .");

    private ActEdges() {
    }

    static void look(Edges edges) {
        signs(edges);
        opinions(edges);
        talk(edges);
        pay(edges);
        nearer(edges);
        morning(edges);
        market(edges);
        sureBehindMarket(edges);
        noMarket(edges);
        fault(edges);
        leastReason(edges);
        reasonsOfThinking(edges);
        reasonsOfTalk(edges);
        reasonsOfCoinsCartsMornings(edges);
        judged(edges);
        behind(edges);
        asThingsAreNow(edges);
    }

    private static void signs(Edges edges) {
        edges.quote("Terms", "WEEKS are a text on a PAD (60 SIGNS at most, codes 33 to 126) of ACTS:");
        edges.limits(RefusalEdges.BUSY, "say(#)", 33, 126, ChalkMarket.OUTSIDE);
        Story almost = FRESH.and("write " + ".".repeat(58));
        edges.is(almost, "say(65)", 59);
        edges.is(almost.and("say(65)"), "say(48)", 60);
        Story full = almost.and("write A0");
        edges.refused(full, "say(#)", ChalkMarket.FULL, 33, 46, 48, 126);
        edges.is(full, "told(0)", 60);
        edges.is(full.and("say(46)"), "done()", 59);
        edges.is(full.and("say(46)", "wipe()"), "say(46)", 1);
    }

    private static void opinions(Edges edges) {
        edges.quote("Terms", "a ONE's letter and: a digit 0 to 6 (it THINKS of that DAY), - (of none), + (it is surer by 1),");
        for (int day = 0; day < 7; day++) {
            edges.is(FRESH.and("write A" + day), "behind(0, 0)", day);
            edges.is(FRESH.and("write A" + day), "behind(0, 1)", 5);
            edges.is(FRESH.and("one(7, " + day + ", 0, 0)", "write H-"), "behind(7, 0)", NONE);
            edges.is(FRESH.and("one(7, " + day + ", 0, 0)", "write H-"), "behind(7, 1)", 0);
        }
        edges.is(FRESH.and("write A/"), "fault()", 1);
        edges.is(FRESH.and("write A7"), "fault()", 1);
        for (int sure = 0; sure < 9; sure++) {
            Story story = FRESH.and("one(3, -1, " + sure + ", 0)", "write D+");
            edges.is(story, "behind(3, 1)", sure + 1);
            edges.is(story, "behind(3, 0)", NONE);
            edges.is(story, "behind(2, 1)", 5);
        }
    }

    private static void talk(Edges edges) {
        edges.quote("Terms", "> and a ONE's letter (talks to that one, who THINKS then as it does, and is SURE by 1 less, "
            + "0 at least),");
        for (int sure = 0; sure < 9; sure++) {
            Story story = FRESH.and("one(0, 6, " + (sure + 1) + ", 10)", "one(7, -1, " + sure + ", 10)", "write A>H");
            edges.is(story, "behind(7, 0)", 6);
            edges.is(story, "behind(7, 1)", sure == 0 ? 0 : sure - 1);
            edges.is(story, "behind(0, 0)", 6);
            edges.is(story, "behind(0, 1)", sure + 1);
            edges.is(story.and("write A>HA>H"), "behind(7, 1)", Math.max(0, sure - 3));
        }
        edges.is(FRESH.and("one(7, 0, 6, 0)", "write H>A"), "behind(0, 0)", 0);
        edges.is(FRESH.and("one(7, 0, 6, 0)", "write H>A"), "behind(0, 1)", 4);
        edges.is(FRESH.and("write A>@"), "fault()", 2);
        edges.is(FRESH.and("write A>I"), "fault()", 2);
    }

    private static void pay(Edges edges) {
        edges.quote("Terms", "or $ and a ONE's letter (pays that one 3 COINS; who is SURE by 9 then);");
        int[] coin = {3, 4, 98, 99};
        int[] sure = {0, 8, 9};
        for (int has : coin) {
            for (int before : sure) {
                Story story = FRESH.and("one(0, 2, 1, " + has + ")", "one(7, -1, " + before + ", 0)", "write A$H");
                edges.is(story, "behind(0, 2)", has - 3);
                edges.is(story, "behind(0, 1)", 1);
                edges.is(story, "behind(7, 2)", 3);
                edges.is(story, "behind(7, 1)", 9);
                edges.is(story, "behind(7, 0)", NONE);
            }
        }
        // No reason is told against having more than 99 by being paid, and no most.
        for (int has = 96; has <= 99; has++) {
            Story story = FRESH.and("one(1, 0, 9, " + has + ")", "write A$B");
            edges.is(story, "judge(0)", NONE);
            edges.is(story, "behind(1, 2)", has + 3);
            edges.is(story.and("done()"), "told(31)", has + 3);
            edges.is(story.and("done()"), "one(1, 0, 0, 0)", 900 + has + 3);
            edges.is(story.and("done()", "image(0)", "one(1, 0, 0, 0)", "restore(0)"), "told(31)", has + 3);
        }
        edges.is(FRESH.and("write H$@"), "fault()", 2);
        edges.is(FRESH.and("write H$I"), "fault()", 2);
    }

    private static void nearer(Edges edges) {
        edges.quote("Terms", "c and a digit 0 to 3 (the CART is FAR by 1 less);");
        for (int cart = 0; cart < 4; cart++) {
            for (int far = 1; far <= 9; far++) {
                Story story = FRESH.and("cart(" + cart + ", " + far + ")", "write c" + cart);
                edges.is(story, "comes(" + cart + ")", far - 1);
                edges.is(story, "comes(" + (3 - cart) + ")", 3);
                edges.is(story.and("done()"), "told(4" + cart + ")", far - 1);
            }
        }
        edges.is(FRESH.and("write c/"), "fault()", 1);
        edges.is(FRESH.and("write c4"), "fault()", 1);
    }

    private static void morning(Edges edges) {
        edges.quote("Terms", "or . (a morning: it is the next DAY; if it is THE DAY, there is a MARKET:");
        for (int day = 0; day < 7; day++) {
            Story story = FRESH.and("day(" + day + ")", "write .");
            edges.is(story, "then(0)", (day + 1) % 7);
            edges.is(story, "then(4)", 1);
            // THE DAY is 0 as long as nobody thinks: only behind DAY 6 it is.
            edges.is(story, "then(5)", day == 6 ? 1 : 0);
            edges.is(story, "then(6)", day == 6 ? 0 : NONE);
        }
        // All days but the last have chalk; then all have as much, so that it is the first again.
        edges.is(PeopleEdges.thinking("012345--").and("day(5)", "write ."), "then(5)", 1);
        edges.is(PeopleEdges.thinking("0123456-").and("day(5)", "write ."), "then(5)", 0);
        edges.is(PeopleEdges.thinking("0123456-").and("day(6)", "write ."), "then(5)", 1);
        edges.is(PeopleEdges.thinking("01234560").and("day(6)", "write ."), "then(5)", 0);
        edges.is(PeopleEdges.thinking("01234560").and("day(0)", "write ."), "then(5)", 1);
        // The day of the morning counts, not the one before it.
        edges.is(FRESH.and("one(0, 0, 5, 5)", "write ."), "then(5)", 1);
        edges.is(FRESH.and("day(0)", "write ."), "then(5)", 0);
        edges.is(FRESH.and("write A0.B1."), "then(5)", 2);
    }

    private static void market(Edges edges) {
        edges.quote("Terms", "each CART in the town SOLD once more, and is FAR by 9;");
        int[] far = {0, 1, 8, 9};
        for (int cart = 0; cart < 4; cart++) {
            for (int before : far) {
                Story story = FRESH.and("day(6)", "cart(" + cart + ", " + before + ")", "write .");
                edges.is(story, "comes(" + cart + ")", before == 0 ? 9 : before);
                edges.is(story, "comes(" + (3 - cart) + ")", 3);
                edges.is(story, "then(3)", before == 0 ? 1 : 0);
            }
        }
        Story all = FRESH.and("day(6)", "cart(0, 0)", "cart(1, 0)", "cart(2, 0)", "cart(3, 0)", "write .");
        edges.is(all, "then(3)", 4);
        edges.is(all.and("done()"), "told(3)", 4);
        edges.is(all.and("done()", "day(6)", "do ."), "told(3)", 4);
        edges.is(FRESH.and("day(6)", "write ."), "then(3)", 0);
        edges.is(FRESH.and("day(6)", "write ."), "then(5)", 1);
    }

    private static void sureBehindMarket(Edges edges) {
        edges.quote("Terms", "then each ONE that THINKS of that DAY is SURE by 0, each other one by 1 more, 9 at most;");
        for (int sure = 0; sure <= 9; sure++) {
            // Each day has chalk 1 by the ONES 1 to 7, so that it is DAY 0 with chalk.
            Story story = PeopleEdges.thinking("-0123456").and("day(6)", "one(0, -1, " + sure + ", 0)",
                "one(1, 0, " + sure + ", 0)", "one(2, 1, " + sure + ", 0)", "one(7, 6, " + sure + ", 0)", "write .");
            int surer = sure == 9 ? 9 : sure + 1;
            edges.is(story, "then(5)", 1);
            edges.is(story, "behind(0, 1)", surer);
            edges.is(story, "behind(1, 1)", 0);
            edges.is(story, "behind(1, 0)", 0);
            edges.is(story, "behind(2, 1)", surer);
            edges.is(story, "behind(7, 1)", surer);
            edges.is(story.and("wipe()", "day(5)", "write ."), "behind(1, 1)", sure);
            edges.is(story.and("wipe()", "day(5)", "write ."), "behind(2, 1)", sure);
        }
    }

    private static void noMarket(Edges edges) {
        edges.quote("Terms", "if there is none, each CART that is not in the town is FAR by 1 less).");
        for (int cart = 0; cart < 4; cart++) {
            for (int far = 0; far <= 9; far++) {
                Story story = FRESH.and("cart(" + cart + ", " + far + ")", "write .");
                edges.is(story, "then(5)", 0);
                edges.is(story, "comes(" + cart + ")", far == 0 ? 0 : far - 1);
                edges.is(story, "comes(" + (3 - cart) + ")", 2);
                edges.is(story, "then(3)", 0);
            }
        }
        // Six mornings bring all in, and the seventh sells them.
        edges.is(FRESH.and("write ......"), "comes(3)", 0);
        edges.is(FRESH.and("write ......."), "then(3)", 4);
    }

    private static void fault(Edges edges) {
        edges.quote("Terms", "THE FAULT: the place (from 0 on) of the first sign that can not stand there; "
            + "the number of signs, if more must come.");
        String many = ".".repeat(57);
        Object[][] rows = {{".", NONE}, {"!", 0}, {"~", 0}, {".!", 1}, {"A", 1}, {"c", 1}, {"A>", 2}, {"A$", 2}, {"H", 1},
            {"A0H", 3}, {"A0c", 3}, {"A>BA>", 5}, {"A!", 1}, {"A>!", 2}, {"A$!", 2}, {"c!", 1}, {"!!", 0}, {"A!c!", 1},
            {"A0!A", 2}, {many + "...", NONE}, {many + "..!", 59}, {many + "..A", 60}, {many + "..c", 60},
            {many + ".A>", 60}, {many + ".A$", 60}, {many + ".A0", NONE}, {many + ".c0", NONE}, {many + "A>B", NONE},
            {many + "A$B", NONE}, {many + ".A7", 59}, {many + ".c4", 59}, {many + "A>I", 59}, {many + "!A>", 57}};
        edges.is(FRESH, "fault()", NONE);
        for (Object[] row : rows) {
            edges.is(FRESH.and("write " + row[0]), "fault()", (Integer) row[1]);
        }
        // What stands there may still be an ACT that can not be.
        edges.is(FRESH.and("write A-A>AA$Ac0c0c0c0"), "fault()", NONE);
    }

    private static void judgedAs(Edges edges, Story story, String text, int act, int why) {
        Story told = story.and("write " + text);
        edges.is(told, "judge(0)", act);
        edges.is(told, "judge(1)", why);
        if (act == NONE) {
            edges.taken(told, "done()");
        } else {
            edges.changesNothing(told, "done()", NO);
        }
    }

    private static void leastReason(Edges edges) {
        edges.quote("Terms", "An ACT can not be for the least of these reasons:");
        judgedAs(edges, FRESH, "A>A", 0, 3);
        judgedAs(edges, FRESH.and("one(0, -1, 0, 0)"), "A>A", 0, 3);
        judgedAs(edges, FRESH.and("one(0, 1, 0, 0)"), "A>A", 0, 3);
        judgedAs(edges, FRESH.and("one(0, 1, 0, 0)"), "A$A", 0, 3);
        judgedAs(edges, FRESH.and("one(0, 1, 0, 0)"), "A$B", 0, 6);
        judgedAs(edges, FRESH.and("one(0, -1, 0, 0)"), "A>B", 0, 4);
        judgedAs(edges, FRESH.and("one(0, 0, 0, 0)"), "A>B", 0, 5);
    }

    private static void reasonsOfThinking(Edges edges) {
        edges.quote("Terms", "1 it THINKS so already (a digit, -); 2 it is SURE by 9 already (+);");
        for (int day = 0; day < 7; day++) {
            Story story = FRESH.and("one(7, " + day + ", 9, 9)");
            for (int other = 0; other < 7; other++) {
                judgedAs(edges, story, "H" + other, day == other ? 0 : NONE, day == other ? 1 : NONE);
            }
            judgedAs(edges, story, "H-", NONE, NONE);
            judgedAs(edges, FRESH, "H" + day, NONE, NONE);
        }
        judgedAs(edges, FRESH, "H-", 0, 1);
        judgedAs(edges, FRESH, "A0A0", 1, 1);
        judgedAs(edges, FRESH, "A6A-A-", 2, 1);
        for (int sure = 0; sure <= 9; sure++) {
            judgedAs(edges, FRESH.and("one(7, 0, " + sure + ", 0)"), "H+", sure == 9 ? 0 : NONE, sure == 9 ? 2 : NONE);
        }
        judgedAs(edges, FRESH, "A+A+A+A+", NONE, NONE);
        judgedAs(edges, FRESH, "A+A+A+A+A+", 4, 2);
    }

    private static void reasonsOfTalk(Edges edges) {
        edges.quote("Terms", "3 both are one (>, $); 4 the first THINKS of none (>); 5 the other one is as SURE, or surer (>);");
        Story able = FRESH.and("one(0, 0, 9, 99)", "one(7, 6, 9, 99)", "one(1, -1, 8, 99)");
        judgedAs(edges, able, "A>A", 0, 3);
        judgedAs(edges, able, "A$A", 0, 3);
        judgedAs(edges, able, "H>H", 0, 3);
        judgedAs(edges, able, "H$H", 0, 3);
        judgedAs(edges, able, "A>B", NONE, NONE);
        judgedAs(edges, able, "A$B", NONE, NONE);
        judgedAs(edges, able, "B>C", 0, 4);
        judgedAs(edges, able, "B0B>C", NONE, NONE);
        judgedAs(edges, able, "A-A>B", 1, 4);
        judgedAs(edges, able, "A>H", 0, 5);
        for (int first = 0; first <= 9; first++) {
            for (int other = 0; other <= 9; other++) {
                boolean can = first > other;
                Story story = FRESH.and("one(2, 0, " + first + ", 0)", "one(3, 0, " + other + ", 0)");
                judgedAs(edges, story, "C>D", can ? NONE : 0, can ? NONE : 5);
            }
        }
    }

    private static void reasonsOfCoinsCartsMornings(Edges edges) {
        edges.quote("Terms", "6 the first has fewer than 3 COINS ($); 7 the CART is in the town (c); 8 it is morning 99 (.).");
        for (int coin = 0; coin <= 7; coin++) {
            Story story = FRESH.and("one(7, 0, 9, " + coin + ")");
            judgedAs(edges, story, "H$A", coin < 3 ? 0 : NONE, coin < 3 ? 6 : NONE);
            judgedAs(edges, story, "H$AH$A", coin < 3 ? 0 : coin < 6 ? 1 : NONE, coin < 6 ? 6 : NONE);
        }
        // Who is paid may have had nothing.
        judgedAs(edges, FRESH.and("one(1, 0, 0, 0)"), "A$BB$C", NONE, NONE);
        for (int cart = 0; cart < 4; cart++) {
            for (int far = 0; far <= 9; far++) {
                Story story = FRESH.and("cart(" + cart + ", " + far + ")");
                judgedAs(edges, story, "c" + cart, far == 0 ? 0 : NONE, far == 0 ? 7 : NONE);
                judgedAs(edges, story, ("c" + cart).repeat(far + 1), far, 7);
            }
        }
        judgedAs(edges, MORNING_98, ".", NONE, NONE);
        judgedAs(edges, MORNING_98, "..", 1, 8);
        judgedAs(edges, MORNING_99, ".", 0, 8);
        judgedAs(edges, MORNING_99, "A0.", 1, 8);
        judgedAs(edges, MORNING_99, "A0", NONE, NONE);
        edges.is(MORNING_98.and("write ."), "then(4)", 99);
        edges.is(MORNING_99, "told(4)", 99);
        edges.is(MORNING_99.and("do A0"), "told(4)", 99);
        edges.is(MORNING_99.and("day(0)"), "told(4)", 99);
    }

    private static void judged(Edges edges) {
        edges.quote("Terms", "JUDGED: of WEEKS the first ACT (from 0 on) that can not be, and why.");
        judgedAs(edges, FRESH, "A0B-", 1, 1);
        judgedAs(edges, FRESH, "A-B-", 0, 1);
        judgedAs(edges, FRESH, "A-A>A", 0, 1);
        judgedAs(edges, FRESH, "A>AA-", 0, 3);
        judgedAs(edges, FRESH, "A0A1".repeat(15), NONE, NONE);
        judgedAs(edges, FRESH, "A0A1".repeat(14) + "A0A0", 29, 1);
        judgedAs(edges, FRESH.and("do " + ".".repeat(39)), ".".repeat(60), NONE, NONE);
        judgedAs(edges, FRESH.and("do " + ".".repeat(40)), ".".repeat(60), 59, 8);
        judgedAs(edges, FRESH, "A>B".repeat(20), 0, 4);
        judgedAs(edges, FRESH.and("one(0, 0, 1, 0)", "one(1, 0, 0, 0)"), "A>B".repeat(20), NONE, NONE);
        edges.is(FRESH, "judge(0)", NONE);
        edges.is(FRESH, "judge(1)", NONE);
        edges.quote("Terms", "DONE: all is so then.");
        edges.is(FRESH, "done()", 0);
        edges.sameShown(FRESH.and("done()"), FRESH);
        edges.sameShown(FRESH.and("do A6A+"), FRESH.and("one(0, 6, 6, 10)"));
        edges.sameShown(FRESH.and("do A0A1A-c2"), FRESH.and("cart(2, 2)"));
        edges.sameShown(FRESH.and("do " + "A0A1".repeat(15)), FRESH.and("one(0, 1, 5, 10)"));
    }

    private static void behind(Edges edges) {
        edges.quote("Terms", "BEHIND, likewise, not being DONE: of a ONE the DAY of which it THINKS (NONE), how SURE, COIN; "
            + "of all: which DAY it is, THE DAY, its CHALK, how often CARTS SOLD in the text, the morning, MARKETS in the text, "
            + "the first ACT by which there was one; NONE.");
        Story sold = FRESH.and("cart(0, 0)", "cart(1, 0)", "day(6)", "do .");
        long[] nothing = {0, 0, 0, 0, 1, 0, NONE};
        long[] more = {2, 2, 0, 1, 3, 2, 2};
        for (int what = 0; what < 7; what++) {
            // Told of the text alone, though two were sold at a MARKET before it.
            edges.is(sold, "then(" + what + ")", nothing[what]);
            edges.changesNothing(sold.and("cart(2, 0)", "write A0B0.C1."), "then(" + what + ")", more[what]);
        }
        edges.is(sold.and("write A6"), "then(6)", NONE);
        edges.is(sold.and("write A0."), "then(6)", 1);
        edges.is(sold.and("write A0.B1."), "then(6)", 1);
        edges.is(FRESH.and("day(6)", "write ."), "then(6)", 0);
        edges.is(FRESH.and("write ......."), "then(6)", 6);
        edges.is(FRESH.and("day(1)", "write " + "A0A1".repeat(12) + "A0A-......"), "then(6)", 31);
        edges.is(PeopleEdges.thinking("00000000"), "then(2)", 0);
        edges.is(PeopleEdges.thinking("0123456-"), "then(2)", 1);
        edges.is(PeopleEdges.thinking("00123456").and("write A-"), "then(2)", 1);
        edges.changesNothing(FRESH.and("write A0"), "behind(0, 0)", 0);
        edges.changesNothing(FRESH.and("one(0, 0, 0, 0)", "write A-"), "behind(0, 0)", NONE);
    }

    private static void asThingsAreNow(Edges edges) {
        edges.quote("Terms", "CHALK (as things are now) of a DAY.");
        edges.is(FRESH.and("write A3"), "chalk(3)", 0);
        edges.is(FRESH.and("write A3", "then(1)"), "chalk(3)", 0);
        edges.is(FRESH.and("write A3", "done()"), "chalk(3)", 1);
        edges.is(FRESH.and("one(0, 3, 5, 10)", "write A-"), "chalk(3)", 1);
        edges.is(FRESH.and("one(0, 3, 5, 10)", "year(5, 99, 0)"), "chalk(3)", 1);
    }
}

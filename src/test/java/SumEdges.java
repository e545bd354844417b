/** The Terms of ======== 3 and ======== 4: swaying, votes, trade, slates, cakes, bells, a year. */
final class SumEdges {
    private static final int NONE = ChalkMarket.NONE;
    private static final int OUTSIDE = ChalkMarket.OUTSIDE;
    private static final long LOST_OUTSIDE = -1000000000000000002L;
    private static final Story FRESH = Story.of();
    private static final Story MORNING_98 = FRESH.and("do " + ".".repeat(60), "do " + ".".repeat(38));

    private SumEdges() {
    }

    static void look(Edges edges) {
        sway(edges);
        needed(edges);
        neededNumbers(edges);
        trade(edges);
        slatesAtFirst(edges);
        sights(edges);
        slates(edges);
        ask(edges);
        cakes(edges);
        rung(edges);
        year(edges);
        yearAtItsEdges(edges);
    }

    private static void sway(Edges edges) {
        edges.quote("Terms", "SWAY (as things are now): the fewest ONES who must THINK otherwise "
            + "(each of any DAY, or of none) so that a DAY is THE DAY.");
        for (int day = 0; day < 7; day++) {
            edges.is(FRESH, "sway(" + day + ")", day);
            // One may stay on DAY 0 or 1, as the seven that go are enough for the others; else all go.
            Story all = PeopleEdges.thinking(Integer.toString(day).repeat(8));
            edges.is(all, "sway(" + day + ")", day < 2 ? 7 : 8);
            // Two on the DAY, one on each other: the days ahead of it need one more than it keeps.
            edges.is(PeopleEdges.thinking("0123456" + day), "sway(" + day + ")", day < 2 ? 1 : 2);
        }
        String[][] rows = {{"01234560", "1", "0"}, {"0123456-", "0", "0"}, {"012345--", "6", "0"}, {"012345-6", "6", "1"},
            {"01234566", "6", "2"}, {"01234566", "0", "0"}, {"00112233", "4", "0"}, {"00112233", "6", "2"},
            {"66666666", "5", "5"}, {"66666660", "6", "7"}, {"6666----", "6", "6"}, {"0------6", "1", "0"},
            {"1-------", "0", "0"}, {"0-------", "0", "1"}, {"00------", "0", "2"}, {"00------", "6", "5"}};
        for (String[] row : rows) {
            edges.is(PeopleEdges.thinking(row[0]), "sway(" + row[1] + ")", row[2].charAt(0) - '0');
        }
        edges.is(FRESH.and("write A0"), "sway(0)", 0);
        edges.is(FRESH.and("write A0", "then(0)"), "sway(0)", 0);
        edges.is(FRESH.and("write A0", "done()"), "sway(0)", 1);
    }

    private static void needed(Edges edges) {
        edges.quote("Terms", "NEEDED: n (1 to 9) have so many votes as a row of digits tells (0 to 9; noughts ahead), "
            + "q votes (1 to 81) carry:");
        edges.limits(FRESH, "needed(0, #, 1, 0, 0)", 1, 9, OUTSIDE);
        edges.limits(FRESH, "needed(9, #, 9, 0, 1)", 1, 9, OUTSIDE);
        edges.limits(FRESH, "needed(#, 1, 1, 0, 0)", 0, 9, OUTSIDE);
        edges.limits(FRESH, "needed(999999999, 9, #, 0, 0)", 1, 81, OUTSIDE);
        edges.limits(FRESH, "needed(0, 1, #, 0, 1)", 1, 81, OUTSIDE);
        // The digits stand at the end of the row: those ahead of them have 0.
        edges.is(FRESH, "needed(7, 9, 7, 8, 0)", 256);
        edges.is(FRESH, "needed(7, 9, 7, 7, 0)", 0);
        edges.is(FRESH, "needed(7, 9, 7, 0, 1)", 256);
        edges.is(FRESH, "needed(700000000, 9, 7, 0, 0)", 256);
        edges.is(FRESH, "needed(700000000, 9, 7, 8, 0)", 0);
        edges.is(FRESH, "needed(0, 9, 1, 0, 1)", 0);
        edges.is(FRESH, "needed(0, 9, 1, 8, 0)", 0);
        edges.is(FRESH, "needed(999999999, 9, 81, 0, 1)", 1);
        edges.is(FRESH, "needed(999999998, 9, 81, 0, 1)", 0);
        edges.is(FRESH, "needed(999999998, 9, 80, 0, 1)", 1);
        edges.is(FRESH, "needed(999999999, 9, 1, 0, 1)", 511);
    }

    private static void neededNumbers(Edges edges) {
        edges.quote("Terms", "in how many sets of the others, who have fewer than q, the i-th (0 on) makes them carry; "
            + "in how many sets of all they carry.");
        // One of 5: needed by nobody, or by a set with q less 1, not by one with q or too few.
        edges.is(FRESH, "needed(5, 1, 5, 0, 0)", 1);
        edges.is(FRESH, "needed(5, 1, 6, 0, 0)", 0);
        edges.is(FRESH, "needed(5, 1, 1, 0, 0)", 1);
        edges.is(FRESH, "needed(51, 2, 6, 0, 0)", 1);
        edges.is(FRESH, "needed(51, 2, 6, 1, 0)", 1);
        edges.is(FRESH, "needed(51, 2, 7, 0, 0)", 0);
        edges.is(FRESH, "needed(51, 2, 5, 0, 0)", 2);
        edges.is(FRESH, "needed(51, 2, 5, 1, 0)", 0);
        edges.is(FRESH, "needed(51, 2, 1, 0, 0)", 1);
        edges.is(FRESH, "needed(55, 2, 5, 0, 0)", 1);
        edges.is(FRESH, "needed(54, 2, 5, 0, 0)", 2);
        edges.is(FRESH, "needed(50, 2, 5, 1, 0)", 0);
        edges.is(FRESH, "needed(50, 2, 5, 0, 0)", 2);
        edges.is(FRESH, "needed(51, 2, 5, 0, 1)", 2);
        edges.is(FRESH, "needed(51, 2, 6, 0, 1)", 1);
        edges.is(FRESH, "needed(51, 2, 7, 0, 1)", 0);
        edges.is(FRESH, "needed(51, 2, 1, 0, 1)", 3);
        edges.is(FRESH, "needed(321, 3, 4, 0, 0)", 3);
        edges.is(FRESH, "needed(321, 3, 4, 2, 0)", 1);
        for (int i = 0; i < 9; i++) {
            edges.is(FRESH, "needed(999999999, 9, 1, " + i + ", 0)", 1);
            edges.is(FRESH, "needed(999999999, 9, 81, " + i + ", 0)", 1);
            edges.is(FRESH, "needed(999999999, 9, 72, " + i + ", 0)", 8);
            edges.is(FRESH, "needed(999999999, 9, 73, " + i + ", 0)", 1);
        }
        // What an earlier call counted is not counted again.
        edges.is(FRESH.and("needed(999999999, 9, 1, 0, 1)"), "needed(0, 1, 1, 0, 1)", 0);
        edges.is(FRESH.and("needed(111111111, 9, 1, 0, 1)"), "needed(0, 1, 1, 0, 1)", 0);
        edges.is(FRESH.and("needed(111111111, 9, 1, 0, 1)"), "needed(5, 1, 5, 0, 0)", 1);
    }

    private static void trade(Edges edges) {
        edges.quote("Terms", "TRADE: on n days (1 to 9) a cabbage costs as a row of digits tells (0 to 9; noughts ahead): "
            + "who has at most one at a time, and buys and sells k times (0 to 9) at the most, each time one "
            + "(to sell and buy on one day is as well as not to): the most that this brings; "
            + "by how few times that much is brought.");
        edges.limits(FRESH, "trade(0, #, 1, 0)", 1, 9, OUTSIDE);
        edges.limits(FRESH, "trade(9, #, 1, 1)", 1, 9, OUTSIDE);
        edges.limits(FRESH, "trade(#, 1, 1, 0)", 0, 9, OUTSIDE);
        edges.limits(FRESH, "trade(909090909, 9, #, 0)", 0, 9, OUTSIDE);
        edges.limits(FRESH, "trade(909090909, 9, #, 1)", 0, 9, OUTSIDE);
        traded(edges, "0, 1, 9", 0, 0);
        traded(edges, "9, 1, 9", 0, 0);
        traded(edges, "9, 2, 1", 9, 1);
        traded(edges, "9, 9, 9", 9, 1);
        traded(edges, "9, 2, 0", 0, 0);
        traded(edges, "90, 2, 9", 0, 0);
        traded(edges, "900000000, 9, 9", 0, 0);
        traded(edges, "100000009, 9, 9", 9, 1);
        traded(edges, "999999999, 9, 9", 0, 0);
        traded(edges, "12, 2, 9", 1, 1);
        // Sold and bought on one day: it brings no more, so it counts as one time.
        traded(edges, "123456789, 9, 9", 8, 1);
        traded(edges, "123456789, 9, 1", 8, 1);
        traded(edges, "1122, 4, 9", 1, 1);
        traded(edges, "987654321, 9, 9", 0, 0);
        // At most one at a time: not two for 1 that are both sold for 9.
        traded(edges, "119, 3, 9", 8, 1);
        traded(edges, "1991, 4, 9", 8, 1);
        for (int k = 0; k <= 9; k++) {
            traded(edges, "90909090, 9, " + k, 9 * Math.min(k, 4), Math.min(k, 4));
            traded(edges, "909090909, 9, " + k, 9 * Math.min(k, 4), Math.min(k, 4));
        }
        // A second time that brings nothing more is none.
        traded(edges, "1911, 4, 2", 8, 1);
        traded(edges, "1912, 4, 2", 9, 2);
        traded(edges, "1912, 4, 1", 8, 1);
        // Days of an earlier call are over.
        edges.is(FRESH.and("trade(909090909, 9, 9, 0)"), "trade(9, 1, 9, 0)", 0);
        edges.is(FRESH.and("trade(999999999, 9, 9, 0)"), "trade(0, 1, 9, 0)", 0);
        edges.is(FRESH.and("trade(999999999, 9, 9, 0)"), "trade(0, 8, 9, 1)", 0);
    }

    private static void traded(Edges edges, String numbers, int most, int times) {
        edges.is(FRESH, "trade(" + numbers + ", 0)", most);
        edges.is(FRESH, "trade(" + numbers + ", 1)", times);
    }

    private static void slatesAtFirst(Edges edges) {
        edges.quote("Terms", "There was CHALK a on one DAY, b on another one (0 to 8 each, 8 at most together).");
        edges.is(FRESH, "slates(-1)", 45);
        int i = 0;
        for (int a = 0; a <= 8; a++) {
            for (int b = 0; b <= 8 - a; b++) {
                edges.is(FRESH, "slates(" + i + ")", 10 * a + b);
                i++;
            }
        }
        edges.is(FRESH, "slates(45)", NONE);
    }

    private static void sights(Edges edges) {
        edges.quote("Terms", "SIGHTS, 8 at most: with x more (0 to 9) on the one, y more (0 to 9) on the other: "
            + "which had more: 0 the one, 1 the other one, 2 both as much.");
        edges.limits(FRESH, "seen(#, 0, 0)", 0, 9, OUTSIDE);
        edges.limits(FRESH, "seen(0, #, 1)", 0, 9, OUTSIDE);
        edges.limits(FRESH, "seen(9, 9, #)", 0, 2, OUTSIDE);
        Object[][] rows = {{"0, 0, 0", 20}, {"0, 0, 1", 20}, {"0, 0, 2", 5}, {"9, 9, 0", 20}, {"9, 9, 1", 20}, {"9, 9, 2", 5},
            {"8, 0, 0", 44}, {"8, 0, 1", 0}, {"8, 0, 2", 1}, {"9, 0, 0", 45}, {"9, 0, 1", 0}, {"9, 0, 2", 0},
            {"0, 8, 0", 0}, {"0, 8, 1", 44}, {"0, 8, 2", 1}, {"0, 9, 0", 0}, {"0, 9, 1", 45}, {"0, 9, 2", 0},
            {"7, 0, 1", 1}, {"0, 7, 0", 1}, {"9, 1, 2", 1}, {"1, 9, 2", 1}};
        for (Object[] row : rows) {
            edges.is(FRESH.and("seen(" + row[0] + ")"), "slates(-1)", (Integer) row[1]);
        }
        Story story = FRESH;
        for (int count = 1; count <= 8; count++) {
            edges.is(story, "seen(" + (count - 1) + ", 9, 1)", count);
            story = story.and("seen(" + (count - 1) + ", 9, 1)");
            edges.is(story, "told(5)", count);
        }
        edges.refused(story, "seen(#, 0, 2)", ChalkMarket.FULL, 0, 4, 9);
        // The eighth counts too, and leaves the fewest: a less b is 1 at the most.
        edges.is(story, "slates(-1)", 29);
    }

    private static void slates(Edges edges) {
        edges.quote("Terms", "SLATES: 10 times a, and b, by which all SIGHTS are so: how many; the i-th (rising).");
        edges.is(FRESH.and("seen(8, 0, 2)"), "slates(0)", 8);
        edges.is(FRESH.and("seen(8, 0, 2)"), "slates(1)", NONE);
        edges.is(FRESH.and("seen(0, 8, 2)"), "slates(0)", 80);
        edges.is(FRESH.and("seen(0, 8, 2)"), "slates(1)", NONE);
        edges.is(FRESH.and("seen(0, 9, 0)"), "slates(0)", NONE);
        edges.is(FRESH.and("seen(0, 9, 0)"), "slates(-1)", 0);
        int[] same = {0, 11, 22, 33, 44, NONE};
        for (int i = 0; i < same.length; i++) {
            edges.is(FRESH.and("seen(0, 0, 2)"), "slates(" + i + ")", same[i]);
        }
        Story both = FRESH.and("seen(0, 6, 1)", "seen(0, 5, 0)");
        edges.is(both, "slates(-1)", 0);
        both = FRESH.and("seen(0, 7, 1)", "seen(0, 5, 0)");
        edges.is(both, "slates(-1)", 2);
        edges.is(both, "slates(0)", 60);
        edges.is(both, "slates(1)", 71);
        edges.is(both, "slates(2)", NONE);
    }

    private static void ask(Edges edges) {
        edges.quote("Terms", "ASK: 10 times x, and y, to ask about next, so that, whatever it is, fewest of these are left "
            + "at the most: the least; how many.");
        asked(edges, FRESH, 0, 20);
        // One is left, or all that are left have one a less b: then no question parts them.
        asked(edges, FRESH.and("seen(8, 0, 2)"), 0, 1);
        asked(edges, FRESH.and("seen(0, 8, 2)"), 0, 1);
        asked(edges, FRESH.and("seen(0, 0, 2)"), 0, 5);
        asked(edges, FRESH.and("seen(9, 9, 2)"), 0, 5);
        // a less b is 0, 1 or 2, or 0, -1 or -2: the least behind 0, and behind all with no x.
        asked(edges, FRESH.and("seen(1, 0, 0)", "seen(0, 3, 1)"), 1, 5);
        asked(edges, FRESH.and("seen(0, 1, 1)", "seen(3, 0, 0)"), 10, 5);
        // a less b is 7 or 8, or -7 or -8: the least that parts the two.
        asked(edges, FRESH.and("seen(0, 6, 0)"), 7, 1);
        asked(edges, FRESH.and("seen(6, 0, 1)"), 70, 1);
        // Three of a less b 5 or 6, and of -5 or -6: two with each.
        asked(edges, FRESH.and("seen(0, 7, 1)", "seen(0, 4, 0)"), 5, 2);
        asked(edges, FRESH.and("seen(7, 0, 0)", "seen(4, 0, 1)"), 50, 2);
        asked(edges, FRESH.and("seen(0, 9, 0)"), NONE, NONE);
        asked(edges, FRESH.and("seen(9, 0, 1)"), NONE, NONE);
        asked(edges, FRESH.and("seen(0, 0, 0)", "seen(0, 0, 1)"), NONE, NONE);
    }

    private static void asked(Edges edges, Story story, int what, int left) {
        edges.changesNothing(story, "ask(0)", what);
        edges.changesNothing(story, "ask(1)", left);
    }

    private static void cakes(Edges edges) {
        edges.quote("Terms", "CAKES: of n (0 to 99) two by turns take 1 at least, m (0 to 99) at the most at first; "
            + "then at the most twice as many as the other one just took; who can not has lost: "
            + "whether who begins can win (1, 0); how many it takes first for it, the least (NONE).");
        edges.limits(FRESH, "cakes(#, 99, 0)", 0, 99, OUTSIDE);
        edges.limits(FRESH, "cakes(#, 1, 1)", 0, 99, OUTSIDE);
        edges.limits(FRESH, "cakes(99, #, 0)", 0, 99, OUTSIDE);
        edges.limits(FRESH, "cakes(0, #, 1)", 0, 99, OUTSIDE);
        int[] none = {0, 1, 99};
        for (int number : none) {
            taken(edges, "0, " + number, NONE);
            taken(edges, number + ", 0", NONE);
        }
        taken(edges, "1, 1", 1);
        taken(edges, "1, 99", 1);
        // 3: by 1 or 2 the other one takes the rest; by 3 none are left.
        taken(edges, "3, 2", NONE);
        taken(edges, "3, 3", 3);
        // 4: 1 leaves 3, of which the other one may take 2 at the most.
        taken(edges, "4, 1", 1);
        taken(edges, "4, 99", 1);
        taken(edges, "7, 1", NONE);
        taken(edges, "7, 2", 2);
        taken(edges, "7, 99", 2);
        taken(edges, "11, 2", NONE);
        taken(edges, "11, 3", 3);
        taken(edges, "89, 88", NONE);
        taken(edges, "89, 89", 89);
        taken(edges, "97, 7", NONE);
        taken(edges, "97, 8", 8);
        taken(edges, "98, 1", 1);
        taken(edges, "99, 1", NONE);
        taken(edges, "99, 2", 2);
        taken(edges, "99, 99", 2);
        // What Fibonacci's numbers leave over decides; below that many who begins has lost.
        int[] alone = {1, 2, 3, 5, 8, 13, 21, 34, 55, 89};
        for (int i = 0; i < alone.length; i++) {
            taken(edges, alone[i] + ", " + alone[i], alone[i]);
            taken(edges, alone[i] + ", " + (alone[i] - 1), NONE);
            if (i < 7) {
                taken(edges, (alone[i] + alone[i + 2]) + ", " + alone[i], alone[i]);
                taken(edges, (alone[i] + alone[i + 2]) + ", " + (alone[i] - 1), NONE);
            }
        }
    }

    private static void taken(Edges edges, String numbers, int first) {
        edges.is(FRESH, "cakes(" + numbers + ", 0)", first == NONE ? 0 : 1);
        edges.is(FRESH, "cakes(" + numbers + ", 1)", first);
    }

    private static void rung(Edges edges) {
        edges.quote("Terms", "RUNG: n (0 to 12) THINK each of one of m DAYS (1 to 7: 0 to m less 1), each as likely: "
            + "that d (0 to m less 1) is THE DAY, of those m; that it has CHALK 0.");
        for (int what = 0; what < 2; what++) {
            edges.limits(FRESH, "rung(#, 1, 0, " + what + ", 0)", 0, 12, LOST_OUTSIDE);
            edges.limits(FRESH, "rung(#, 7, 6, " + what + ", 1)", 0, 12, LOST_OUTSIDE);
            edges.limits(FRESH, "rung(0, #, 0, " + what + ", 0)", 1, 7, LOST_OUTSIDE);
            edges.limits(FRESH, "rung(12, #, 0, " + what + ", 1)", 1, 7, LOST_OUTSIDE);
            for (int m = 1; m <= 7; m++) {
                edges.limits(FRESH, "rung(12, " + m + ", #, " + what + ", 0)", 0, m - 1, LOST_OUTSIDE);
                edges.limits(FRESH, "rung(0, " + m + ", #, " + what + ", 1)", 0, m - 1, LOST_OUTSIDE);
            }
        }
        for (int m = 1; m <= 7; m++) {
            for (int d = 0; d < m; d++) {
                // Nobody thinks: it is DAY 0 for certain, and no DAY has chalk.
                likely(edges, "0, " + m + ", " + d + ", 0", d == 0 ? 1 : 0, 1);
                likely(edges, "0, " + m + ", " + d + ", 1", 1, 1);
                // One thinks: of 0, and it is DAY 1, or of another, and it is DAY 0.
                long upper = m == 1 ? 1 : d == 0 ? m - 1 : d == 1 ? 1 : 0;
                likely(edges, "1, " + m + ", " + d + ", 0", upper, upper == 0 || m == 1 ? 1 : m);
                likely(edges, "1, " + m + ", " + d + ", 1", m - 1, m == 1 ? 1 : m);
            }
        }
        // The last day of seven needs all others thought of: 6 in 720 ways; 5 can not.
        likely(edges, "5, 7, 6, 0", 0, 1);
        likely(edges, "6, 7, 6, 0", 720, 117649);
        likely(edges, "12, 7, 6, 0", 953029440L, 13841287201L);
        likely(edges, "12, 7, 6, 1", 2176782336L, 13841287201L);
        likely(edges, "12, 1, 0, 0", 1, 1);
        likely(edges, "12, 1, 0, 1", 0, 1);
        // Of two: as much chalk on both is DAY 0.
        likely(edges, "2, 2, 0, 0", 3, 4);
        likely(edges, "2, 2, 1, 0", 1, 4);
        likely(edges, "12, 2, 0, 0", 1255, 2048);
        likely(edges, "12, 2, 1, 0", 793, 2048);
        // What an earlier call counted is not counted again.
        edges.is(FRESH.and("rung(12, 7, 6, 0, 0)"), "rung(12, 2, 0, 0, 0)", 1255);
        edges.is(FRESH.and("rung(12, 7, 0, 0, 0)"), "rung(12, 2, 0, 0, 1)", 2048);
    }

    private static void likely(Edges edges, String numbers, long upper, long lower) {
        edges.is(FRESH, "rung(" + numbers + ", 0)", upper);
        edges.is(FRESH, "rung(" + numbers + ", 1)", lower);
    }

    private static void year(Edges edges) {
        edges.quote("Terms", "A YEAR by a seed (0 to 9999) of m ACTS (1 to 99), from all as it is: "
            + "x becomes (75 x and 74) left over by 65537; of ONE x left over by 8, by x by 8 (cut) left over by 8, "
            + "z being x by 64 (cut): 0, 1 it THINKS of DAY z left over by 7, 2 of none, 3 talks to ONE z left over by 8, "
            + "4 pays it, 5 is surer, if z left over by 2 is 0, else CART z left over by 4 comes nearer, 6, 7 a morning; "
            + "each if that can be: how often CARTS SOLD in it; COIN of ONE 0; MARKETS.");
        edges.limits(FRESH, "year(#, 1, 1)", 0, 9999, OUTSIDE);
        edges.limits(RefusalEdges.BUSY, "year(9999, #, 0)", 1, 99, OUTSIDE);
        edges.limits(RefusalEdges.BUSY, "year(0, #, 2)", 1, 99, OUTSIDE);
        Story eve = FRESH.and("day(6)", "cart(0, 0)", "cart(1, 1)", "cart(3, 0)");
        // Seed 0: C1 and a morning, so that one ACT has no MARKET and two have.
        yearIs(edges, eve, "0, 1", 0, 10, 0);
        yearIs(edges, eve, "0, 2", 2, 10, 1);
        // 4 and 10 begin with a morning (by 6, and by 7); 27 with two.
        yearIs(edges, eve, "4, 1", 2, 10, 1);
        yearIs(edges, eve, "10, 1", 2, 10, 1);
        yearIs(edges, FRESH, "4, 1", 0, 10, 0);
        yearIs(edges, MORNING_98.and("day(6)", "cart(2, 0)"), "27, 2", 1, 10, 1);
        yearIs(edges, MORNING_98.and("day(5)"), "27, 2", 0, 10, 0);
        yearIs(edges, MORNING_98.and("do .", "day(6)"), "27, 2", 0, 10, 0);
        // 130: A$B; 997: that twice; 450: A$A; 293: B$A.
        yearIs(edges, FRESH, "130, 1", 0, 7, 0);
        yearIs(edges, FRESH.and("one(0, 0, 0, 2)"), "130, 1", 0, 2, 0);
        yearIs(edges, FRESH.and("one(0, 0, 0, 3)"), "130, 1", 0, 0, 0);
        yearIs(edges, FRESH.and("one(0, 0, 0, 5)"), "997, 2", 0, 2, 0);
        yearIs(edges, FRESH.and("one(0, 0, 0, 6)"), "997, 2", 0, 0, 0);
        yearIs(edges, FRESH, "450, 1", 0, 10, 0);
        yearIs(edges, FRESH, "293, 1", 0, 13, 0);
        yearIs(edges, FRESH.and("one(1, 0, 0, 2)"), "293, 1", 0, 10, 0);
        yearIs(edges, FRESH.and("one(0, 0, 0, 99)"), "293, 1", 0, 102, 0);
        // 9: c3 and a morning; 154: c1 and one.
        yearIs(edges, FRESH.and("day(6)", "cart(3, 0)"), "9, 2", 1, 10, 1);
        yearIs(edges, FRESH.and("day(6)", "cart(3, 1)"), "9, 2", 1, 10, 1);
        yearIs(edges, FRESH.and("day(6)", "cart(3, 2)"), "9, 2", 0, 10, 1);
        yearIs(edges, FRESH.and("day(6)", "cart(1, 1)"), "154, 2", 1, 10, 1);
        // 18: A- and a morning; 226 and 1309: A0 (by 0, and by 1) and one; 362: A>B and one.
        yearIs(edges, FRESH.and("one(0, 0, 5, 10)", "day(6)"), "18, 2", 0, 10, 1);
        yearIs(edges, FRESH.and("one(0, 0, 5, 10)"), "18, 2", 0, 10, 0);
        yearIs(edges, FRESH, "226, 2", 0, 10, 1);
        yearIs(edges, FRESH, "1309, 2", 0, 10, 1);
        Story twoThink = FRESH.and("one(0, 0, 5, 10)", "day(1)");
        yearIs(edges, twoThink.and("one(1, 1, 4, 10)"), "362, 2", 0, 10, 0);
        yearIs(edges, twoThink.and("one(1, 1, 5, 10)"), "362, 2", 0, 10, 1);
    }

    private static void yearIs(Edges edges, Story story, String numbers, int sold, int coin, int markets) {
        edges.is(story, "year(" + numbers + ", 0)", sold);
        edges.is(story, "year(" + numbers + ", 1)", coin);
        edges.is(story, "year(" + numbers + ", 2)", markets);
    }

    private static void yearAtItsEdges(Edges edges) {
        edges.quote("Terms", "Nothing is DONE in fact.");
        Story[] stories = {FRESH, RefusalEdges.BUSY.and("write A0."), RefusalEdges.BUSY.and("write A0A"), MORNING_98};
        int[] seeds = {0, 1, 77, 9998, 9999};
        int[] acts = {1, 2, 98, 99};
        for (Story story : stories) {
            for (int seed : seeds) {
                for (int m : acts) {
                    Model last = modelOf(story).behindYear(seed, m);
                    String call = "year(" + seed + ", " + m + ", ";
                    edges.changesNothing(story, call + "0)", last.sold);
                    edges.changesNothing(story, call + "1)", last.coin[0]);
                    edges.changesNothing(story, call + "2)", last.markets);
                }
            }
        }
        for (int seed = 0; seed <= 9999; seed += 3) {
            Model last = modelOf(FRESH).behindYear(seed, 99);
            yearIs(edges, FRESH, seed + ", 99", last.sold, last.coin[0], last.markets);
        }
    }

    /** How all is at the end of a story, with nothing sold and no MARKET yet. */
    private static Model modelOf(Story story) {
        Telling telling = story.tell();
        Model model = new Model();
        model.day = (int) telling.ask("told(1)");
        model.morning = (int) telling.ask("told(4)");
        for (int one = 0; one < 8; one++) {
            model.thinks[one] = Math.max(-1, (int) telling.ask("told(1" + one + ")"));
            model.sure[one] = (int) telling.ask("told(2" + one + ")");
            model.coin[one] = (int) telling.ask("told(3" + one + ")");
        }
        for (int cart = 0; cart < 4; cart++) {
            model.far[cart] = (int) telling.ask("told(4" + cart + ")");
        }
        return model;
    }
}

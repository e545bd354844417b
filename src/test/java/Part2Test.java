/** Promises 8 to 13: weeks. */
public final class Part2Test {
    private static final Due DUE = new Due("Part2Test");
    private static final int NONE = ChalkMarket.NONE;
    private static final int NO = ChalkMarket.NO;

    public static void main(String[] args) {
        promise8Reasons();
        promise8TheLeastReason();
        promise8TheFirstAct();
        promise8Refused();
        promise8Morning99();
        promise9Done();
        promise9DoneRefused();
        promise10Behind();
        promise10BehindRefused();
        promise10Talk();
        promise10Pay();
        promise10Market();
        promise11Comes();
        promise11ComesRefused();
        promise12Then();
        promise12Markets();
        promise12ThenRefused();
        promise13Chalk();
        DUE.end();
    }

    private static void judged(Market market, String text, int act, int why) {
        Due.put(market, text);
        String seen = Due.seenOf(market);
        DUE.is("8: judge(0) of " + text, market.judge(0), act);
        DUE.is("8: judge(1) of " + text, market.judge(1), why);
        DUE.is("8: all behind judge() of " + text, Due.seenOf(market), seen);
    }

    private static void promise8Reasons() {
        Market market = new Market();
        market.one(0, 0, 9, 10);
        market.one(1, 6, 8, 3);
        market.one(2, -1, 9, 2);
        market.one(3, 4, 4, 0);
        market.cart(0, 0);
        market.cart(1, 1);
        judged(market, "", NONE, NONE);
        judged(market, "A0", 0, 1);
        judged(market, "A1", NONE, NONE);
        judged(market, "B6", 0, 1);
        judged(market, "C-", 0, 1);
        judged(market, "A-", NONE, NONE);
        judged(market, "A-A-", 1, 1);
        judged(market, "H-", 0, 1);
        judged(market, "A+", 0, 2);
        judged(market, "B+", NONE, NONE);
        judged(market, "B+B+", 1, 2);
        judged(market, "A>A", 0, 3);
        judged(market, "A$A", 0, 3);
        judged(market, "C>B", 0, 4);
        judged(market, "A>C", 0, 5);
        judged(market, "B>A", 0, 5);
        judged(market, "A>B", NONE, NONE);
        judged(market, "D>E", 0, 5);
        judged(market, "E4E>D", NONE, NONE);
        judged(market, "C$A", 0, 6);
        judged(market, "D$A", 0, 6);
        judged(market, "B$A", NONE, NONE);
        judged(market, "B$AB$A", 1, 6);
        judged(market, "c0", 0, 7);
        judged(market, "c1", NONE, NONE);
        judged(market, "c1c1", 1, 7);
        judged(market, "c3c3c3c3", 3, 7);
    }

    private static void promise8TheLeastReason() {
        Market market = new Market();
        judged(market, "A>A", 0, 3);
        judged(market, "A>B", 0, 4);
        market.one(0, -1, 0, 0);
        judged(market, "A>A", 0, 3);
        judged(market, "A$A", 0, 3);
        judged(market, "A>B", 0, 4);
        market.one(0, 2, 5, 0);
        judged(market, "A>B", 0, 5);
        market.one(0, 2, 6, 0);
        judged(market, "A>B", NONE, NONE);
        market.one(1, 2, 5, 0);
        judged(market, "A>B", NONE, NONE);
    }

    private static void promise8TheFirstAct() {
        Market market = new Market();
        judged(market, "A0.c2B1B1A0", 4, 1);
        judged(market, "A0A0A-A-", 1, 1);
        judged(market, "....A-", 4, 1);
        judged(market, "c0c0c0A0c0A0", 4, 7);
        judged(market, "..c3c3", 3, 7);
        judged(market, "A+A+A+A+A+A1", 4, 2);
        judged(market, "A$BA$BA$BA$BB+", 3, 6);
        judged(market, "A$BB+", 1, 2);
    }

    private static void promise8Refused() {
        Market market = Due.with("A");
        String seen = Due.seenOf(market);
        DUE.is("8: judge(0) with a FAULT", market.judge(0), NO);
        DUE.is("8: judge(1) with a FAULT", market.judge(1), NO);
        int[] outside = {-1, 2, Integer.MIN_VALUE, Integer.MAX_VALUE};
        for (int what : outside) {
            DUE.is("8: judge(" + what + ") with a FAULT", market.judge(what), ChalkMarket.OUTSIDE);
        }
        Due.put(market, "A-.I");
        DUE.is("8: judge(0) with a FAULT behind what can not be", market.judge(0), NO);
        Due.put(market, "A");
        DUE.is("8: all behind refused calls", Due.seenOf(market), seen);
        Due.put(market, "A0");
        for (int what : outside) {
            DUE.is("8: judge(" + what + ")", market.judge(what), ChalkMarket.OUTSIDE);
        }
    }

    private static void promise8Morning99() {
        Market market = Due.with(Due.mornings(60));
        DUE.is("8: 60 mornings", market.done(), 60);
        Due.put(market, Due.mornings(40));
        DUE.is("8: the 100th morning", market.judge(0), 39);
        DUE.is("8: why", market.judge(1), 8);
        DUE.is("8: done() of it", market.done(), NO);
        DUE.is("8: morning", market.told(4), 60);
        Due.put(market, Due.mornings(39));
        DUE.is("8: 99 mornings", market.judge(0), NONE);
        DUE.is("8: then(4)", market.then(4), 99);
        DUE.is("8: done()", market.done(), 39);
        DUE.is("8: morning 99", market.told(4), 99);
        DUE.is("8: its day", market.told(1), 99 % 7);
        judged(market, "A1.", 1, 8);
        judged(market, "A1", NONE, NONE);
        DUE.is("8: A YEAR then has no MARKET", market.year(5, 99, 2), 0);
    }

    private static void promise9Done() {
        Market market = new Market();
        DUE.is("9: done() of nothing", market.done(), 0);
        DUE.is("9: all is as at first", Due.seenOf(market), Due.seenOf(new Market()));
        Due.put(market, "A0B3C+c1A$D.C0C>E");
        market.seen(1, 2, 0);
        DUE.is("9: done()", market.done(), 8);
        DUE.is("9: the PAD is empty", market.told(0), 0);
        DUE.is("9: A thinks", market.told(10), 0);
        DUE.is("9: B thinks", market.told(11), 3);
        DUE.is("9: E thinks", market.told(14), 0);
        DUE.is("9: E is sure by", market.told(24), 5);
        DUE.is("9: D is sure by", market.told(23), 9);
        DUE.is("9: A has", market.told(30), 7);
        DUE.is("9: D has", market.told(33), 13);
        DUE.is("9: CART 1 is far by", market.told(41), 2);
        DUE.is("9: CART 2 is far by", market.told(42), 3);
        DUE.is("9: it is DAY", market.told(1), 1);
        DUE.is("9: it is morning", market.told(4), 1);
        DUE.is("9: SIGHTS stay", market.told(5), 1);
        DUE.is("9: nothing else", market.told(17), NONE);
    }

    private static void promise9DoneRefused() {
        String[] texts = {"A", "A0c", "x", "A0A0", "A0.A+A$A", "c0c0c0c0", "B>"};
        for (String text : texts) {
            Market market = Due.with(text);
            String seen = Due.seenOf(market);
            DUE.is("9: done() of " + text, market.done(), NO);
            DUE.is("9: all behind it", Due.seenOf(market), seen);
        }
        Market market = Due.with("A0A0");
        market.done();
        DUE.is("9: A0 of A0A0 was not done", market.told(10), NONE);
        DUE.is("9: the PAD stays", market.wipe(), 4);
    }

    private static void promise10Behind() {
        Market market = new Market();
        market.one(7, 2, 3, 4);
        DUE.is("10: behind(7, 0) of nothing", market.behind(7, 0), 2);
        DUE.is("10: behind(7, 1) of nothing", market.behind(7, 1), 3);
        DUE.is("10: behind(7, 2) of nothing", market.behind(7, 2), 4);
        DUE.is("10: behind(0, 0) of nothing", market.behind(0, 0), NONE);
        Due.put(market, "A6H-A+A+B0C$D");
        String seen = Due.seenOf(market);
        int[] thinks = {6, 0, NONE, NONE, NONE, NONE, NONE, NONE};
        int[] sure = {7, 5, 5, 9, 5, 5, 5, 3};
        int[] coin = {10, 10, 7, 13, 10, 10, 10, 4};
        for (int one = 0; one < 8; one++) {
            DUE.is("10: behind(" + one + ", 0)", market.behind(one, 0), thinks[one]);
            DUE.is("10: behind(" + one + ", 1)", market.behind(one, 1), sure[one]);
            DUE.is("10: behind(" + one + ", 2)", market.behind(one, 2), coin[one]);
        }
        DUE.is("10: nothing is DONE", Due.seenOf(market), seen);
        DUE.is("10: nothing is DONE", market.told(10), NONE);
        market.done();
        for (int one = 0; one < 8; one++) {
            DUE.is("10: told(1" + one + ")", market.told(10 + one), thinks[one]);
            DUE.is("10: told(2" + one + ")", market.told(20 + one), sure[one]);
            DUE.is("10: told(3" + one + ")", market.told(30 + one), coin[one]);
        }
    }

    private static void promise10BehindRefused() {
        String[] texts = {"", "A", "A0A0"};
        for (String text : texts) {
            Market market = Due.with(text);
            int[] noOnes = {-1, 8, Integer.MIN_VALUE, Integer.MAX_VALUE};
            for (int one : noOnes) {
                DUE.is("10: behind(" + one + ", 0)", market.behind(one, 0), ChalkMarket.UNKNOWN);
                DUE.is("10: behind(" + one + ", 3)", market.behind(one, 3), ChalkMarket.UNKNOWN);
            }
            int[] outside = {-1, 3, Integer.MIN_VALUE, Integer.MAX_VALUE};
            for (int what : outside) {
                DUE.is("10: behind(0, " + what + ") of " + text, market.behind(0, what), ChalkMarket.OUTSIDE);
            }
            if (!text.isEmpty()) {
                for (int what = 0; what < 3; what++) {
                    DUE.is("10: behind(7, " + what + ") of " + text, market.behind(7, what), NO);
                }
            }
        }
    }

    private static void promise10Talk() {
        Market market = new Market();
        market.one(0, 4, 2, 10);
        market.one(1, 3, 1, 10);
        market.one(2, -1, 0, 10);
        Due.put(market, "A>BA>CA>BA>C");
        DUE.is("10: B thinks as A", market.behind(1, 0), 4);
        DUE.is("10: C thinks as A", market.behind(2, 0), 4);
        DUE.is("10: B is sure by 0 at least", market.behind(1, 1), 0);
        DUE.is("10: C is sure by 0 at least", market.behind(2, 1), 0);
        DUE.is("10: A is as sure as before", market.behind(0, 1), 2);
        DUE.is("10: A thinks as before", market.behind(0, 0), 4);
        market.one(3, 5, 9, 10);
        market.one(4, 5, 8, 10);
        Due.put(market, "D>E");
        DUE.is("10: who thinks so already can be talked to", market.behind(4, 0), 5);
        DUE.is("10: and is sure by 1 less", market.behind(4, 1), 7);
    }

    private static void promise10Pay() {
        Market market = new Market();
        market.one(0, -1, 1, 9);
        market.one(1, 2, 9, 99);
        Due.put(market, "A$BA$BA$B");
        DUE.is("10: A has paid all", market.behind(0, 2), 0);
        DUE.is("10: A is no surer", market.behind(0, 1), 1);
        DUE.is("10: B has it, however much that is", market.behind(1, 2), 108);
        DUE.is("10: B is sure by 9", market.behind(1, 1), 9);
        DUE.is("10: B thinks as before", market.behind(1, 0), 2);
        DUE.is("9: done()", market.done(), 3);
        DUE.is("2: one() then answers it", market.one(1, 0, 0, 0), 900 + 108);
    }

    private static void promise10Market() {
        Market market = new Market();
        market.day(6);
        int[] thinks = {0, 1, 2, 3, 4, 5, 6, -1};
        int[] sure = {7, 8, 9, 0, 1, 9, 4, 3};
        for (int one = 0; one < 8; one++) {
            market.one(one, thinks[one], sure[one], one);
        }
        // Each day has chalk 1: day 0 is the least of them, and one thinks of it.
        Due.put(market, ".");
        int[] due = {0, 9, 9, 1, 2, 9, 5, 4};
        for (int one = 0; one < 8; one++) {
            DUE.is("10: sure behind a MARKET, " + one, market.behind(one, 1), due[one]);
            DUE.is("10: thinks behind a MARKET, " + one, market.behind(one, 0), thinks[one] < 0 ? NONE : thinks[one]);
            DUE.is("10: coin behind a MARKET, " + one, market.behind(one, 2), one);
        }
        market.day(0);
        for (int one = 0; one < 8; one++) {
            DUE.is("10: sure behind no MARKET, " + one, market.behind(one, 1), sure[one]);
        }
    }

    private static void promise11Comes() {
        Market market = new Market();
        int[] far = {0, 1, 5, 9};
        for (int cart = 0; cart < 4; cart++) {
            market.cart(cart, far[cart]);
            DUE.is("11: comes(" + cart + ") of nothing", market.comes(cart), far[cart]);
        }
        carts(market, "c2c3c3", 0, 1, 4, 7);
        carts(market, ".", 0, 0, 4, 8);
        carts(market, "..", 0, 0, 3, 7);
        carts(market, "c1.", 0, 0, 4, 8);
        carts(market, "......", 0, 0, 0, 3);
        // The seventh morning is DAY 0 again, THE DAY.
        carts(market, ".......", 9, 9, 9, 3);
        carts(market, "........", 8, 8, 8, 2);
        carts(market, "A0.", 9, 1, 5, 9);
        carts(market, "A0..", 8, 0, 4, 8);
        DUE.is("11: nothing is DONE", market.told(42), 5);
        DUE.is("11: nothing is DONE", market.told(3), 0);
    }

    private static void carts(Market market, String text, int... far) {
        Due.put(market, text);
        for (int cart = 0; cart < 4; cart++) {
            DUE.is("11: comes(" + cart + ") of " + text, market.comes(cart), far[cart]);
        }
    }

    private static void promise11ComesRefused() {
        String[] texts = {"", "c", "c0c0c0c0"};
        int[] noCarts = {-1, 4, Integer.MIN_VALUE, Integer.MAX_VALUE};
        for (String text : texts) {
            Market market = Due.with(text);
            String seen = Due.seenOf(market);
            for (int cart : noCarts) {
                DUE.is("11: comes(" + cart + ")", market.comes(cart), ChalkMarket.UNKNOWN);
            }
            for (int cart = 0; cart < 4; cart++) {
                DUE.is("11: comes(" + cart + ") of " + text, market.comes(cart), text.isEmpty() ? 3 : NO);
            }
            DUE.is("11: all behind it", Due.seenOf(market), seen);
        }
    }

    private static void then(Market market, String text, int... due) {
        Due.put(market, text);
        for (int what = 0; what < 7; what++) {
            DUE.is("12: then(" + what + ") of " + text, market.then(what), due[what]);
        }
    }

    private static void promise12Then() {
        Market market = new Market();
        then(market, "", 0, 0, 0, 0, 0, 0, NONE);
        then(market, "A0", 0, 1, 0, 0, 0, 0, NONE);
        then(market, "A0B1C2D3E4F5", 0, 6, 0, 0, 0, 0, NONE);
        then(market, "A0B1C2D3E4F5G6", 0, 0, 1, 0, 0, 0, NONE);
        then(market, "A0B1C2D3E4F5G6H0", 0, 1, 1, 0, 0, 0, NONE);
        then(market, "A0B1C2D3E4F5G6H0.", 1, 1, 1, 0, 1, 1, 8);
        then(market, "A0.", 1, 1, 0, 0, 1, 1, 1);
        then(market, "A0.B1.C2.", 3, 3, 0, 0, 3, 3, 1);
        then(market, ".", 1, 0, 0, 0, 1, 0, NONE);
        then(market, Due.mornings(7), 0, 0, 0, 4, 7, 1, 6);
        // Sold on the mornings 7, 21, 35, 49; on the others the CARTS are on the road.
        then(market, Due.mornings(60), 4, 0, 0, 16, 60, 8, 6);
        DUE.is("12: nothing is DONE", market.told(4), 0);
    }

    private static void promise12Markets() {
        Market market = new Market();
        market.cart(0, 0);
        market.cart(1, 0);
        then(market, "A0.", 1, 1, 0, 2, 1, 1, 1);
        DUE.is("12: done()", market.done(), 2);
        DUE.is("12: told(3)", market.told(3), 2);
        // What was before the text is not counted in it.
        then(market, "", 1, 1, 0, 0, 1, 0, NONE);
        then(market, "B1.", 2, 2, 0, 0, 2, 1, 1);
        then(market, "c2c2c2.B1.", 3, 2, 0, 0, 3, 0, NONE);
        then(market, "c2c2c2B1.", 2, 2, 0, 1, 2, 1, 4);
        DUE.is("12: done()", market.done(), 5);
        DUE.is("12: told(3)", market.told(3), 3);
        DUE.is("12: told(40)", market.told(40), 9);
        DUE.is("12: told(42)", market.told(42), 9);
        DUE.is("12: told(43)", market.told(43), 3);
    }

    private static void promise12ThenRefused() {
        String[] texts = {"", "A0B", "A0A0"};
        int[] outside = {-1, 7, Integer.MIN_VALUE, Integer.MAX_VALUE};
        for (String text : texts) {
            Market market = Due.with(text);
            for (int what : outside) {
                DUE.is("12: then(" + what + ") of " + text, market.then(what), ChalkMarket.OUTSIDE);
            }
            for (int what = 0; what < 7 && !text.isEmpty(); what++) {
                DUE.is("12: then(" + what + ") of " + text, market.then(what), NO);
            }
        }
    }

    private static void promise13Chalk() {
        Market market = new Market();
        int[] thinks = {6, 6, 6, 0, 3, 3, -1, 1};
        for (int one = 0; one < 8; one++) {
            market.one(one, thinks[one], 5, 10);
        }
        int[] due = {1, 1, 0, 2, 0, 0, 3};
        Due.put(market, "A2B2");
        for (int day = 0; day < 7; day++) {
            DUE.is("13: chalk(" + day + ")", market.chalk(day), due[day]);
        }
        DUE.is("13: THE DAY", market.told(2), 2);
        int[] outside = {-1, 7, Integer.MIN_VALUE, Integer.MAX_VALUE};
        for (int day : outside) {
            DUE.is("13: chalk(" + day + ")", market.chalk(day), ChalkMarket.OUTSIDE);
        }
        for (int one = 0; one < 8; one++) {
            market.one(one, 5, 5, 10);
        }
        DUE.is("13: chalk(5) of all", market.chalk(5), 8);
        DUE.is("13: chalk(6) of all", market.chalk(6), 0);
    }
}

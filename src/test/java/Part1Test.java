/** Promises 1 to 7: people, carts, weeks. */
public final class Part1Test {
    private static final Due DUE = new Due("Part1Test");

    public static void main(String[] args) {
        promise1NewObject();
        promise1ObjectsAreApart();
        promise2One();
        promise2OneRefused();
        promise3Cart();
        promise4Day();
        promise5Say();
        promise6Wipe();
        promise7FaultOfTexts();
        promise7FaultOfEverySign();
        DUE.end();
    }

    private static void promise1NewObject() {
        Market market = new Market();
        for (int what = 0; what <= 5; what++) {
            DUE.is("1: told(" + what + ")", market.told(what), 0);
        }
        for (int one = 0; one < 8; one++) {
            DUE.is("1: told(1" + one + ")", market.told(10 + one), ChalkMarket.NONE);
            DUE.is("1: told(2" + one + ")", market.told(20 + one), 5);
            DUE.is("1: told(3" + one + ")", market.told(30 + one), 10);
        }
        for (int cart = 0; cart < 4; cart++) {
            DUE.is("1: told(4" + cart + ")", market.told(40 + cart), 3);
        }
        for (int day = 0; day < 7; day++) {
            DUE.is("1: chalk(" + day + ")", market.chalk(day), 0);
        }
        DUE.is("1: fault()", market.fault(), ChalkMarket.NONE);
        DUE.is("1: wipe()", market.wipe(), 0);
        DUE.is("1: forget()", market.forget(), 0);
        DUE.is("1: restore(0)", market.restore(0), ChalkMarket.STATE);
        DUE.is("1: restore(1)", market.restore(1), ChalkMarket.STATE);
    }

    private static void promise1ObjectsAreApart() {
        Market first = new Market();
        first.one(0, 0, 9, 99);
        first.cart(0, 9);
        first.day(6);
        first.say('.');
        first.seen(0, 0, 2);
        first.image(0);
        DUE.is("1: a second object", Due.seenOf(new Market()), Due.seenOf(new Market()));
        Market second = new Market();
        DUE.is("1: told(1) of a second object", second.told(1), 0);
        DUE.is("1: told(0) of a second object", second.told(0), 0);
        DUE.is("1: restore(0) of a second object", second.restore(0), ChalkMarket.STATE);
        DUE.is("1: told(1) of the first", first.told(1), 6);
    }

    private static void promise2One() {
        Market market = new Market();
        for (int one = 0; one < 8; one++) {
            DUE.is("2: one(" + one + ", 3, 1, 7)", market.one(one, 3, 1, 7), 510);
            DUE.is("2: one(" + one + ", -1, 9, 99)", market.one(one, -1, 9, 99), 107);
            DUE.is("2: of none", market.told(10 + one), ChalkMarket.NONE);
            DUE.is("2: one(" + one + ", 6, 0, 0)", market.one(one, 6, 0, 0), 999);
            DUE.is("2: of 6", market.told(10 + one), 6);
            DUE.is("2: one(" + one + ", 0, 5, 4)", market.one(one, 0, 5, 4), 0);
            DUE.is("2: of 0", market.told(10 + one), 0);
            DUE.is("2: sure by 5", market.told(20 + one), 5);
            DUE.is("2: coin 4", market.told(30 + one), 4);
        }
        market.one(3, 5, 8, 50);
        DUE.is("2: the others stay, below", market.told(12) * 1000 + market.told(22) * 100 + market.told(32), 504);
        DUE.is("2: the others stay, above", market.told(14) * 1000 + market.told(24) * 100 + market.told(34), 504);
        for (int day = -1; day < 7; day++) {
            DUE.is("2: one(7, " + day + ", ..)", market.one(7, day, 5, 4), 504);
            DUE.is("2: then told(17)", market.told(17), day < 0 ? ChalkMarket.NONE : day);
        }
    }

    private static void promise2OneRefused() {
        Market market = new Market();
        market.one(0, 3, 4, 5);
        market.one(7, 3, 4, 5);
        String before = Due.seenOf(market);
        int[] noOnes = {-1, 8, 9, Integer.MIN_VALUE, Integer.MAX_VALUE};
        for (int one : noOnes) {
            DUE.is("2: one(" + one + ", 0, 0, 0)", market.one(one, 0, 0, 0), ChalkMarket.UNKNOWN);
            DUE.is("2: one(" + one + ", 7, 10, 100)", market.one(one, 7, 10, 100), ChalkMarket.UNKNOWN);
        }
        int[] noDays = {-2, 7, ChalkMarket.NONE, Integer.MIN_VALUE, Integer.MAX_VALUE};
        for (int day : noDays) {
            DUE.is("2: one(0, " + day + ", 0, 0)", market.one(0, day, 0, 0), ChalkMarket.OUTSIDE);
        }
        int[] notSure = {-1, 10, Integer.MIN_VALUE, Integer.MAX_VALUE};
        for (int sure : notSure) {
            DUE.is("2: one(7, 0, " + sure + ", 0)", market.one(7, 0, sure, 0), ChalkMarket.OUTSIDE);
        }
        int[] noCoin = {-1, 100, Integer.MIN_VALUE, Integer.MAX_VALUE};
        for (int coin : noCoin) {
            DUE.is("2: one(0, 0, 0, " + coin + ")", market.one(0, 0, 0, coin), ChalkMarket.OUTSIDE);
        }
        DUE.is("2: all behind refused calls", Due.seenOf(market), before);
    }

    private static void promise3Cart() {
        Market market = new Market();
        for (int cart = 0; cart < 4; cart++) {
            int before = 3;
            for (int far = 9; far >= 0; far--) {
                DUE.is("3: cart(" + cart + ", " + far + ")", market.cart(cart, far), before);
                DUE.is("3: told(4" + cart + ")", market.told(40 + cart), far);
                before = far;
            }
            market.cart(cart, cart + 2);
        }
        DUE.is("3: each its own", market.told(40) * 1000 + market.told(41) * 100 + market.told(42) * 10 + market.told(43), 2345);
        String before = Due.seenOf(market);
        int[] noCarts = {-1, 4, 5, Integer.MIN_VALUE, Integer.MAX_VALUE};
        for (int cart : noCarts) {
            DUE.is("3: cart(" + cart + ", 0)", market.cart(cart, 0), ChalkMarket.UNKNOWN);
            DUE.is("3: cart(" + cart + ", 10)", market.cart(cart, 10), ChalkMarket.UNKNOWN);
        }
        int[] notFar = {-1, 10, Integer.MIN_VALUE, Integer.MAX_VALUE};
        for (int far : notFar) {
            DUE.is("3: cart(0, " + far + ")", market.cart(0, far), ChalkMarket.OUTSIDE);
            DUE.is("3: cart(3, " + far + ")", market.cart(3, far), ChalkMarket.OUTSIDE);
        }
        DUE.is("3: all behind refused calls", Due.seenOf(market), before);
    }

    private static void promise4Day() {
        Market market = new Market();
        int before = 0;
        for (int day = 6; day >= 0; day--) {
            DUE.is("4: day(" + day + ")", market.day(day), before);
            DUE.is("4: told(1)", market.told(1), day);
            before = day;
        }
        DUE.is("4: day(4)", market.day(4), 0);
        DUE.is("4: it is no morning more", market.told(4), 0);
        String seen = Due.seenOf(market);
        int[] noDays = {-1, 7, Integer.MIN_VALUE, Integer.MAX_VALUE};
        for (int day : noDays) {
            DUE.is("4: day(" + day + ")", market.day(day), ChalkMarket.OUTSIDE);
        }
        DUE.is("4: all behind refused calls", Due.seenOf(market), seen);
    }

    private static void promise5Say() {
        Market market = new Market();
        for (int sign = 33; sign <= 126; sign++) {
            if (sign == 33 + 60) {
                market.wipe();
            }
            int due = sign < 33 + 60 ? sign - 32 : sign - 92;
            DUE.is("5: say(" + sign + ")", market.say(sign), due);
            DUE.is("5: told(0)", market.told(0), due);
        }
        int[] noSigns = {32, 127, 0, -1, 10, 255, Integer.MIN_VALUE, Integer.MAX_VALUE};
        String before = Due.seenOf(market);
        for (int sign : noSigns) {
            DUE.is("5: say(" + sign + ")", market.say(sign), ChalkMarket.OUTSIDE);
        }
        DUE.is("5: all behind refused calls", Due.seenOf(market), before);
        Due.put(market, Due.mornings(59));
        DUE.is("5: the 60th sign", market.say('A'), 60);
        before = Due.seenOf(market);
        DUE.is("5: the 61st sign", market.say('0'), ChalkMarket.FULL);
        DUE.is("5: no sign on a full pad", market.say(32), ChalkMarket.OUTSIDE);
        DUE.is("5: no sign on a full pad", market.say(127), ChalkMarket.OUTSIDE);
        DUE.is("5: still full", market.say('.'), ChalkMarket.FULL);
        DUE.is("5: all behind refused calls", Due.seenOf(market), before);
        DUE.is("5: the 61st is not there", market.fault(), 60);
    }

    private static void promise6Wipe() {
        Market market = Due.with("A0B1.");
        DUE.is("6: wipe()", market.wipe(), 5);
        DUE.is("6: told(0)", market.told(0), 0);
        DUE.is("6: wipe() again", market.wipe(), 0);
        DUE.is("6: nothing was done", market.told(10), ChalkMarket.NONE);
        Due.put(market, Due.mornings(60));
        DUE.is("6: wipe() of a full pad", market.wipe(), 60);
        DUE.is("6: say() behind it", market.say('x'), 1);
        DUE.is("6: what was there is gone", market.fault(), 0);
    }

    private static void promise7FaultOfTexts() {
        String[] good = {"", "A0", "H6", "A-", "A+", "A>B", "H>H", "A$B", "c0", "c3", ".", "...", "A0.c2B>C",
            "A-H+.c1D$E", "C0", "A0A0A0", Due.mornings(60), "A>B".repeat(20)};
        for (String text : good) {
            DUE.is("7: fault() of " + text, Due.with(text).fault(), ChalkMarket.NONE);
        }
        Object[][] bad = {{"A", 1}, {"A>", 2}, {"A$", 2}, {"c", 1}, {".c", 2}, {"A0B", 3}, {"A7", 1}, {"A8", 1}, {"A/", 1},
            {"I0", 0}, {"a0", 0}, {"@0", 0}, {"0", 0}, {"-", 0}, {"+", 0}, {">", 0}, {"$", 0}, {"A>I", 2},
            {"A>@", 2}, {"A>a", 2}, {"A$I", 2}, {"A$0", 2}, {"c4", 1}, {"c/", 1}, {"cA", 1}, {"Ac", 1}, {"A.", 1}, {"AA", 1},
            {".A0x", 3}, {".A0xA7", 3}, {"A>BB", 4}, {"A>>", 2}, {"A$$", 2}, {"cc", 1}, {"c.", 1}, {"A0..c3A+H", 9},
            {".".repeat(59) + "A", 60}, {".".repeat(59) + "!", 59}, {"xA", 0}, {"A>.", 2}};
        for (Object[] row : bad) {
            DUE.is("7: fault() of " + row[0], Due.with((String) row[0]).fault(), (Integer) row[1]);
        }
        Market market = Due.with("A>");
        DUE.is("7: fault() changes nothing", market.fault() * 100 + market.told(0), 202);
        market.say('B');
        DUE.is("7: what had to come came", market.fault(), ChalkMarket.NONE);
    }

    private static void promise7FaultOfEverySign() {
        for (int sign = 33; sign <= 126; sign++) {
            boolean letter = sign >= 'A' && sign <= 'H';
            boolean open = letter || sign == 'c';
            DUE.is("7: first " + (char) sign, faultBehind("", sign), open ? 1 : sign == '.' ? ChalkMarket.NONE : 0);
            DUE.is("7: behind . " + (char) sign, faultBehind(".", sign), open ? 2 : sign == '.' ? ChalkMarket.NONE : 1);
            boolean whole = sign >= '0' && sign <= '6' || sign == '-' || sign == '+';
            boolean half = sign == '>' || sign == '$';
            DUE.is("7: behind D " + (char) sign, faultBehind("D", sign), half ? 2 : whole ? ChalkMarket.NONE : 1);
            DUE.is("7: behind D> " + (char) sign, faultBehind("D>", sign), letter ? ChalkMarket.NONE : 2);
            DUE.is("7: behind D$ " + (char) sign, faultBehind("D$", sign), letter ? ChalkMarket.NONE : 2);
            boolean cart = sign >= '0' && sign <= '3';
            DUE.is("7: behind c " + (char) sign, faultBehind("c", sign), cart ? ChalkMarket.NONE : 1);
        }
    }

    private static int faultBehind(String text, int sign) {
        return Due.with(text + (char) sign).fault();
    }
}

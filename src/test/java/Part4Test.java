import java.math.BigInteger;
import java.util.ArrayList;
import java.util.List;
import java.util.Random;

/** Promises 17 to 26: slates, cakes, bells; held against answers found by trying everything. */
public final class Part4Test {
    private static final Due DUE = new Due("Part4Test");
    private static final int NONE = ChalkMarket.NONE;
    private static final int OUTSIDE = ChalkMarket.OUTSIDE;
    private static final int[] NOT_0_OR_1 = {-1, 2, Integer.MIN_VALUE, Integer.MAX_VALUE};

    public static void main(String[] args) {
        promise17Seen();
        promise18Forget();
        promise19Slates();
        promise19And20ByTrying();
        promise19And20OfEveryPair();
        promise20Ask();
        promise21CakesByTrying();
        promise21Refused();
        promise22ByHand();
        promise22ByTrying();
        promise22Refused();
        promise23Year();
        promise23Refused();
        promise24And25Images();
        promise24And25Refused();
        promise26Told();
        DUE.end();
    }

    private static void promise17Seen() {
        Market market = new Market();
        int[][] rows = {{0, 0, 0}, {9, 9, 2}, {9, 0, 1}, {0, 9, 0}, {1, 2, 2}, {3, 4, 1}, {5, 6, 0}, {0, 0, 0}};
        for (int i = 0; i < 8; i++) {
            DUE.is("17: told(5)", market.told(5), i);
            DUE.is("17: seen", market.seen(rows[i][0], rows[i][1], rows[i][2]), i + 1);
        }
        String seen = Due.seenOf(market);
        DUE.is("17: a ninth", market.seen(0, 0, 0), ChalkMarket.FULL);
        int[] outside = {-1, 10, Integer.MIN_VALUE, Integer.MAX_VALUE};
        for (int full = 0; full < 2; full++) {
            for (int number : outside) {
                DUE.is("17: seen(" + number + ", 0, 0)", market.seen(number, 0, 0), OUTSIDE);
                DUE.is("17: seen(0, " + number + ", 0)", market.seen(0, number, 0), OUTSIDE);
            }
            DUE.is("17: seen(0, 0, -1)", market.seen(0, 0, -1), OUTSIDE);
            DUE.is("17: seen(0, 0, 3)", market.seen(0, 0, 3), OUTSIDE);
            DUE.is("17: all behind it", Due.seenOf(market), seen);
            market.forget();
            seen = Due.seenOf(market);
        }
    }

    private static void promise18Forget() {
        Market market = new Market();
        DUE.is("18: forget()", market.forget(), 0);
        market.seen(0, 0, 2);
        market.seen(0, 1, 2);
        DUE.is("18: nothing fits", market.slates(-1), 0);
        DUE.is("18: forget() of two", market.forget(), 2);
        DUE.is("18: told(5)", market.told(5), 0);
        DUE.is("18: all fit", market.slates(-1), 45);
        DUE.is("18: forget() again", market.forget(), 0);
        for (int i = 1; i <= 8; i++) {
            DUE.is("18: there is room again", market.seen(0, 0, 2), i);
        }
        DUE.is("18: forget() of eight", market.forget(), 8);
    }

    private static void promise19Slates() {
        Market market = new Market();
        DUE.is("19: slates(-1)", market.slates(-1), 45);
        int i = 0;
        for (int slate = 0; slate <= 88; slate++) {
            if (slate / 10 + slate % 10 <= 8) {
                DUE.is("19: slates(" + i + ")", market.slates(i), slate);
                i++;
            }
        }
        DUE.is("19: slates(45)", market.slates(45), NONE);
        DUE.is("19: slates(max)", market.slates(Integer.MAX_VALUE), NONE);
        DUE.is("19: slates(-2)", market.slates(-2), NONE);
        DUE.is("19: slates(min)", market.slates(Integer.MIN_VALUE), NONE);
        market.seen(7, 0, 2);
        DUE.is("19: 7 more on the one, both as much", market.slates(-1), 1);
        DUE.is("19: which", market.slates(0), 7);
        DUE.is("19: no more", market.slates(1), NONE);
        market.forget();
        market.seen(0, 7, 0);
        DUE.is("19: the one had more than 7 more", market.slates(-1), 1);
        DUE.is("19: which", market.slates(0), 80);
        market.forget();
        market.seen(8, 0, 1);
        DUE.is("19: none", market.slates(-1), 0);
        DUE.is("19: none", market.slates(0), NONE);
    }

    private static int answer(int slate, int x, int y) {
        int one = slate / 10 + x;
        int other = slate % 10 + y;
        return one > other ? 0 : one < other ? 1 : 2;
    }

    private static List<Integer> allSlates() {
        List<Integer> all = new ArrayList<>();
        for (int slate = 0; slate <= 88; slate++) {
            if (slate / 10 + slate % 10 <= 8) {
                all.add(slate);
            }
        }
        return all;
    }

    private static void promise19And20ByTrying() {
        Random random = new Random(19);
        for (int turn = 0; turn < 300; turn++) {
            Market market = new Market();
            List<Integer> fitting = allSlates();
            int truth = fitting.get(random.nextInt(45));
            int sights = random.nextInt(9);
            for (int i = 0; i < sights; i++) {
                int x = random.nextInt(10);
                int y = random.nextInt(10);
                see(market, fitting, x, y, random.nextInt(6) == 0 ? random.nextInt(3) : answer(truth, x, y));
            }
            slatesAndAskByTrying(market, fitting);
        }
    }

    /** Every SIGHT, and a second one that bounds a less b from above: no more than two can leave. */
    private static void promise19And20OfEveryPair() {
        for (int first = 0; first < 300; first++) {
            for (int lead = -9; lead <= 9; lead++) {
                Market market = new Market();
                List<Integer> fitting = allSlates();
                see(market, fitting, first / 30, first / 3 % 10, first % 3);
                see(market, fitting, Math.max(0, lead), Math.max(0, -lead), 1);
                slatesAndAskByTrying(market, fitting);
            }
        }
    }

    private static void see(Market market, List<Integer> fitting, int x, int y, int more) {
        market.seen(x, y, more);
        fitting.removeIf(slate -> answer(slate, x, y) != more);
    }

    private static void slatesAndAskByTrying(Market market, List<Integer> fitting) {
        DUE.is("19: slates(-1)", market.slates(-1), fitting.size());
        for (int i = 0; i < 46; i++) {
            DUE.is("19: slates(" + i + ")", market.slates(i), i < fitting.size() ? fitting.get(i) : NONE);
        }
        askByTrying(market, fitting);
    }

    private static void askByTrying(Market market, List<Integer> fitting) {
        int best = NONE;
        int fewest = NONE;
        for (int question = 0; question < 100 && !fitting.isEmpty(); question++) {
            int[] left = new int[3];
            for (int slate : fitting) {
                left[answer(slate, question / 10, question % 10)]++;
            }
            int most = Math.max(left[0], Math.max(left[1], left[2]));
            if (best == NONE || most < fewest) {
                best = question;
                fewest = most;
            }
        }
        DUE.is("20: ask(0) of " + fitting, market.ask(0), best);
        DUE.is("20: ask(1) of " + fitting, market.ask(1), fewest);
    }

    private static void promise20Ask() {
        Market market = new Market();
        market.seen(2, 0, 2);
        market.seen(0, 0, 1);
        DUE.is("20: what can not be parted", market.ask(0), 0);
        DUE.is("20: how many", market.ask(1), 4);
        market.forget();
        market.seen(0, 2, 0);
        DUE.is("20: x more", market.ask(0), 4);
        market.forget();
        market.seen(2, 0, 1);
        DUE.is("20: y more", market.ask(0), 40);
        String seen = Due.seenOf(market);
        for (int what : NOT_0_OR_1) {
            DUE.is("20: ask(" + what + ")", market.ask(what), OUTSIDE);
        }
        DUE.is("20: all behind it", Due.seenOf(market), seen);
        market.seen(9, 0, 1);
        DUE.is("20: nothing fits", market.ask(0), NONE);
        DUE.is("20: nothing fits", market.ask(1), NONE);
        for (int what : NOT_0_OR_1) {
            DUE.is("20: nothing fits, ask(" + what + ")", market.ask(what), OUTSIDE);
        }
    }

    private static void promise21CakesByTrying() {
        // least[n][m]: how many who begins takes first, the least with which it wins; 0: none.
        int[][] least = new int[100][200];
        for (int n = 0; n < 100; n++) {
            for (int m = 0; m < 200; m++) {
                for (int take = Math.min(n, m); take >= 1; take--) {
                    if (least[n - take][2 * take] == 0) {
                        least[n][m] = take;
                    }
                }
            }
        }
        for (int n = 0; n < 100; n++) {
            Market market = new Market();
            for (int m = 0; m < 100; m++) {
                DUE.is("21: cakes(" + n + ", " + m + ", 0)", market.cakes(n, m, 0), least[n][m] > 0 ? 1 : 0);
                DUE.is("21: cakes(" + n + ", " + m + ", 1)", market.cakes(n, m, 1), least[n][m] > 0 ? least[n][m] : NONE);
            }
        }
    }

    private static void promise21Refused() {
        Market market = new Market();
        int[] outside = {-1, 100, Integer.MIN_VALUE, Integer.MAX_VALUE};
        for (int number : outside) {
            DUE.is("21: cakes(" + number + ", 1, 0)", market.cakes(number, 1, 0), OUTSIDE);
            DUE.is("21: cakes(1, " + number + ", 0)", market.cakes(1, number, 0), OUTSIDE);
            DUE.is("21: cakes(1, " + number + ", 1)", market.cakes(1, number, 1), OUTSIDE);
        }
        for (int what : NOT_0_OR_1) {
            DUE.is("21: cakes(1, 1, " + what + ")", market.cakes(1, 1, what), OUTSIDE);
        }
        DUE.is("21: none to take", market.cakes(0, 99, 0), 0);
        DUE.is("21: none may be taken", market.cakes(99, 0, 0), 0);
        DUE.is("21: none may be taken", market.cakes(99, 0, 1), NONE);
    }

    private static void likely(int n, int m, int d, int what, long upper, long lower) {
        Market market = new Market();
        String call = "22: rung(" + n + ", " + m + ", " + d + ", " + what;
        DUE.is(call + ", 0)", market.rung(n, m, d, what, 0), upper);
        DUE.is(call + ", 1)", market.rung(n, m, d, what, 1), lower);
    }

    private static void promise22ByHand() {
        likely(0, 1, 0, 0, 1, 1);
        likely(0, 1, 0, 1, 1, 1);
        likely(12, 1, 0, 0, 1, 1);
        likely(12, 1, 0, 1, 0, 1);
        likely(0, 7, 0, 0, 1, 1);
        likely(0, 7, 6, 0, 0, 1);
        likely(1, 2, 1, 0, 1, 2);
        likely(5, 7, 6, 0, 0, 1);
        likely(6, 7, 6, 0, 720, 117649);
        likely(12, 6, 5, 1, 244140625, 2176782336L);
    }

    private static void promise22ByTrying() {
        for (int m = 1; m <= 7; m++) {
            for (int n = 0; n <= 12; n++) {
                BigInteger[] least = new BigInteger[m];
                BigInteger[] empty = new BigInteger[m];
                for (int d = 0; d < m; d++) {
                    least[d] = BigInteger.ZERO;
                    empty[d] = BigInteger.ZERO;
                }
                spread(new int[m], 0, n, BigInteger.ONE, least, empty);
                BigInteger all = BigInteger.valueOf(m).pow(n);
                for (int d = 0; d < m; d++) {
                    BigInteger common = least[d].gcd(all);
                    likely(n, m, d, 0, least[d].divide(common).longValueExact(), all.divide(common).longValueExact());
                    common = empty[d].gcd(all);
                    likely(n, m, d, 1, empty[d].divide(common).longValueExact(), all.divide(common).longValueExact());
                }
            }
        }
    }

    /** Goes through all chalks that days can have, each as often as people can think so. */
    private static void spread(int[] chalk, int day, int left, BigInteger ways, BigInteger[] least, BigInteger[] empty) {
        if (day == chalk.length) {
            if (left > 0) {
                return;
            }
            int leastDay = 0;
            for (int d = 0; d < chalk.length; d++) {
                leastDay = chalk[d] < chalk[leastDay] ? d : leastDay;
                empty[d] = chalk[d] == 0 ? empty[d].add(ways) : empty[d];
            }
            least[leastDay] = least[leastDay].add(ways);
            return;
        }
        BigInteger choices = BigInteger.ONE;
        for (int here = 0; here <= left; here++) {
            chalk[day] = here;
            spread(chalk, day + 1, left - here, ways.multiply(choices), least, empty);
            choices = choices.multiply(BigInteger.valueOf(left - here)).divide(BigInteger.valueOf(here + 1));
        }
    }

    private static void promise22Refused() {
        Market market = new Market();
        long due = -1000000000000000002L;
        int[] outsideN = {-1, 13, Integer.MIN_VALUE, Integer.MAX_VALUE};
        for (int n : outsideN) {
            DUE.is("22: n " + n, market.rung(n, 1, 0, 0, 0), due);
        }
        int[] outsideM = {-1, 0, 8, Integer.MIN_VALUE, Integer.MAX_VALUE};
        for (int m : outsideM) {
            DUE.is("22: m " + m, market.rung(1, m, 0, 0, 0), due);
        }
        for (int m = 1; m <= 7; m++) {
            DUE.is("22: d " + m, market.rung(1, m, m, 0, 0), due);
            DUE.is("22: d " + m, market.rung(1, m, m, 1, 0), due);
            DUE.is("22: d -1", market.rung(1, m, -1, 0, 1), due);
        }
        for (int number : NOT_0_OR_1) {
            DUE.is("22: what " + number, market.rung(1, 1, 0, number, 0), due);
            DUE.is("22: part " + number, market.rung(1, 1, 0, 0, number), due);
        }
    }

    private static void promise23Year() {
        Market market = new Market();
        int[] seeds = {0, 1, 5, 77, 1234, 9998, 9999};
        for (int seed : seeds) {
            for (int m = 1; m <= 99; m += 7) {
                YearByWords year = new YearByWords(market, seed, m);
                Market asked = market.again();
                String call = "23: year(" + seed + ", " + m;
                DUE.is(call + ", 0)", asked.year(seed, m, 0), year.sold);
                DUE.is(call + ", 1)", asked.year(seed, m, 1), year.coin);
                DUE.is(call + ", 2)", asked.year(seed, m, 2), year.markets);
                DUE.is("23: nothing is DONE in fact", Due.seenOf(asked), Due.seenOf(market));
            }
            Due.doAll(market, "...");
            market.one(seed % 8, seed % 7, seed % 10, 20 + seed % 50);
            market.one(7 - seed % 8, -1, 9 - seed % 10, seed % 4);
            market.cart(seed % 4, 0);
        }
    }

    /** A YEAR told on the PAD of another object, an ACT at a time. */
    private static final class YearByWords {
        final int sold;
        final int coin;
        int markets;

        YearByWords(Market from, int seed, int m) {
            Market other = from.again();
            int soldBefore = other.told(3);
            long x = seed;
            for (int i = 0; i < m; i++) {
                x = (75 * x + 74) % 65537;
                perform(other, Model.drawnAct((int) x));
            }
            sold = other.told(3) - soldBefore;
            coin = other.told(30);
        }

        private void perform(Market other, String act) {
            Due.write(other, act);
            markets += act.equals(".") ? Math.max(0, other.then(5)) : 0;
            if (other.done() == ChalkMarket.NO) {
                other.wipe();
            }
        }
    }

    private static void promise23Refused() {
        Market market = new Market();
        int[] outsideSeed = {-1, 10000, Integer.MIN_VALUE, Integer.MAX_VALUE};
        for (int seed : outsideSeed) {
            DUE.is("23: seed " + seed, market.year(seed, 1, 0), OUTSIDE);
        }
        int[] outsideM = {-1, 0, 100, Integer.MIN_VALUE, Integer.MAX_VALUE};
        for (int m : outsideM) {
            DUE.is("23: m " + m, market.year(0, m, 0), OUTSIDE);
        }
        int[] outsideWhat = {-1, 3, Integer.MIN_VALUE, Integer.MAX_VALUE};
        for (int what : outsideWhat) {
            DUE.is("23: what " + what, market.year(0, 1, what), OUTSIDE);
        }
    }

    private static void promise24And25Images() {
        for (int n = 0; n < 2; n++) {
            Market market = new Market();
            market.one(0, 1, 2, 3);
            market.one(7, 6, 9, 99);
            market.cart(0, 0);
            market.cart(3, 8);
            market.day(6);
            Due.doAll(market, ".");
            market.seen(1, 2, 0);
            market.seen(2, 6, 1);
            String kept = Due.seenOf(market);
            DUE.is("24: image(" + n + ")", market.image(n), 1);
            DUE.is("24: all behind it", Due.seenOf(market), kept);
            DUE.is("24: the other one is not kept", market.restore(1 - n), ChalkMarket.STATE);
            Due.doAll(market, "B3 A0 A$D c3 .");
            market.forget();
            market.seen(3, 3, 2);
            market.day(2);
            market.one(7, -1, 0, 0);
            Due.put(market, "A+");
            String later = Due.seenOf(market);
            DUE.holds("24: it is otherwise now", !later.equals(kept));
            DUE.is("24: image of the other", market.image(1 - n), 1);
            DUE.is("25: restore(" + n + ")", market.restore(n), 1);
            DUE.is("25: the PAD stays", market.told(0), 2);
            DUE.is("25: its text stays", market.judge(0), NONE);
            market.wipe();
            DUE.is("25: all is as it was", Due.seenOf(market), kept);
            DUE.is("25: what was sold too", market.told(3), 1);
            market.one(0, 4, 4, 4);
            market.forget();
            DUE.is("25: restore(" + n + ") again", market.restore(n), 1);
            DUE.is("25: the image was not touched", Due.seenOf(market), kept);
            DUE.is("25: restore of the other", market.restore(1 - n), 1);
            Due.put(market, "A+");
            DUE.is("25: all is as it was later", Due.seenOf(market), later);
            DUE.is("24: image(" + n + ") anew", market.image(n), 1);
            market.day(0);
            DUE.is("25: restore(" + n + ") of it", market.restore(n), 1);
            DUE.is("25: the newer one", Due.seenOf(market), later);
        }
    }

    private static void promise24And25Refused() {
        Market market = Due.with("A0");
        String seen = Due.seenOf(market);
        for (int n : NOT_0_OR_1) {
            DUE.is("24: image(" + n + ")", market.image(n), OUTSIDE);
            DUE.is("25: restore(" + n + ")", market.restore(n), OUTSIDE);
        }
        DUE.is("25: restore(0)", market.restore(0), ChalkMarket.STATE);
        DUE.is("25: restore(1)", market.restore(1), ChalkMarket.STATE);
        DUE.is("25: all behind refused calls", Due.seenOf(market), seen);
    }

    private static void promise26Told() {
        Market market = new Market();
        market.cart(1, 0);
        market.cart(2, 0);
        Due.doAll(market, "A0.");
        for (int one = 0; one < 8; one++) {
            market.one(one, one == 7 ? -1 : one == 3 ? 0 : one, 9 - one, 10 * one + 5);
        }
        for (int cart = 0; cart < 4; cart++) {
            market.cart(cart, 2 * cart + 1);
        }
        market.day(5);
        market.seen(0, 0, 0);
        market.seen(0, 0, 1);
        Due.put(market, "A1B");
        int[] first = {3, 5, 3, 2, 1, 2};
        for (int what = 0; what < 6; what++) {
            DUE.is("26: told(" + what + ")", market.told(what), first[what]);
        }
        for (int one = 0; one < 8; one++) {
            DUE.is("26: told(1" + one + ")", market.told(10 + one), one == 7 ? NONE : one == 3 ? 0 : one);
            DUE.is("26: told(2" + one + ")", market.told(20 + one), 9 - one);
            DUE.is("26: told(3" + one + ")", market.told(30 + one), 10 * one + 5);
        }
        for (int cart = 0; cart < 4; cart++) {
            DUE.is("26: told(4" + cart + ")", market.told(40 + cart), 2 * cart + 1);
        }
        int[] outside = {-1, 6, 7, 8, 9, 18, 19, 28, 29, 38, 39, 44, 45, 50, 100, Integer.MIN_VALUE, Integer.MAX_VALUE};
        String seen = Due.seenOf(market);
        for (int what : outside) {
            DUE.is("26: told(" + what + ")", market.told(what), OUTSIDE);
        }
        DUE.is("26: all behind it", Due.seenOf(market), seen);
    }
}

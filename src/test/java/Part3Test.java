import java.util.ArrayList;
import java.util.Arrays;
import java.util.List;
import java.util.Random;

/** Promises 14 to 16: swaying, votes, trade; held against answers found by trying everything. */
public final class Part3Test {
    private static final Due DUE = new Due("Part3Test");
    private static final int OUTSIDE = ChalkMarket.OUTSIDE;
    private static final int[] NOT_0_OR_1 = {-1, 2, Integer.MIN_VALUE, Integer.MAX_VALUE};

    public static void main(String[] args) {
        promise14ByHand();
        promise14ByTrying();
        promise15ByHand();
        promise15ByTrying();
        promise15Refused();
        promise16ByHand();
        promise16ByTrying();
        promise16Refused();
        DUE.end();
    }

    private static void promise14ByHand() {
        Market market = new Market();
        for (int day = 0; day < 7; day++) {
            DUE.is("14: sway(" + day + ") of none", market.sway(day), day);
        }
        for (int one = 0; one < 8; one++) {
            market.one(one, 6, 9, 0);
        }
        DUE.is("14: sway(6) of all", market.sway(6), 8);
        DUE.is("14: sway(5) of all", market.sway(5), 5);
        Due.put(market, "A0A0");
        String seen = Due.seenOf(market);
        DUE.is("14: as things are now", market.sway(5), 5);
        int[] outside = {-1, 7, Integer.MIN_VALUE, Integer.MAX_VALUE};
        for (int day : outside) {
            DUE.is("14: sway(" + day + ")", market.sway(day), OUTSIDE);
        }
        DUE.is("14: all behind it", Due.seenOf(market), seen);
        int[] thinks = {0, 0, 1, 2, 3, 4, 5, 6};
        for (int one = 0; one < 8; one++) {
            market.one(one, thinks[one], 5, 10);
        }
        DUE.is("14: sway(0), one of two leaves", market.sway(0), 1);
        DUE.is("14: sway(1), it is already", market.sway(1), 0);
        DUE.is("14: sway(2), one leaves", market.sway(2), 1);
    }

    /** From every way to think to every other one; who thinks what is drawn, and is no matter. */
    private static void promise14ByTrying() {
        List<int[]> ways = new ArrayList<>();
        spread(new int[8], 0, 8, ways);
        DUE.is("14: ways to think", ways.size(), 6435);
        Random random = new Random(14);
        for (int[] now : ways) {
            Market market = new Market();
            int one = random.nextInt(8);
            for (int place = 0; place < 8; place++) {
                for (int i = 0; i < now[place]; i++) {
                    market.one(one, place == 7 ? -1 : place, random.nextInt(10), random.nextInt(100));
                    one = (one + 1) % 8;
                }
            }
            int[] fewest = fewest(ways, now);
            for (int day = 0; day < 7; day++) {
                DUE.is("14: sway(" + day + ") of " + Arrays.toString(now), market.sway(day), fewest[day]);
            }
        }
    }

    /** All ways in which so many can think of 7 days, or (the last place) of none. */
    private static void spread(int[] so, int place, int left, List<int[]> ways) {
        if (place == 7) {
            so[7] = left;
            ways.add(so.clone());
            return;
        }
        for (int here = 0; here <= left; here++) {
            so[place] = here;
            spread(so, place + 1, left - here, ways);
        }
    }

    /** Of each day, how few must think otherwise so that it is the least. */
    private static int[] fewest(List<int[]> ways, int[] now) {
        int[] fewest = new int[7];
        Arrays.fill(fewest, 99);
        for (int[] way : ways) {
            int moved = 0;
            for (int place = 0; place < 8; place++) {
                moved += Math.max(0, way[place] - now[place]);
            }
            int day = leastDay(way);
            fewest[day] = Math.min(fewest[day], moved);
        }
        return fewest;
    }

    private static int leastDay(int[] way) {
        int least = 0;
        for (int day = 1; day < 7; day++) {
            if (way[day] < way[least]) {
                least = day;
            }
        }
        return least;
    }

    private static void promise15ByHand() {
        Market market = new Market();
        DUE.is("15: one alone", market.needed(5, 1, 5, 0, 0), 1);
        DUE.is("15: one alone carries", market.needed(5, 1, 5, 0, 1), 1);
        DUE.is("15: too few", market.needed(5, 1, 6, 0, 0), 0);
        DUE.is("15: too few to carry", market.needed(5, 1, 6, 0, 1), 0);
        DUE.is("15: more than enough", market.needed(5, 1, 1, 0, 0), 1);
        DUE.is("15: noughts ahead", market.needed(21, 4, 2, 2, 0), 8);
        DUE.is("15: noughts ahead", market.needed(21, 4, 2, 0, 0), 0);
        DUE.is("15: all noughts", market.needed(0, 9, 1, 8, 1), 0);
        DUE.is("15: nine nines, 81", market.needed(999999999, 9, 81, 0, 0), 1);
        DUE.is("15: nine nines, 1", market.needed(999999999, 9, 1, 8, 1), 511);
        DUE.is("15: nine nines, 1", market.needed(999999999, 9, 1, 8, 0), 1);
        DUE.is("15: nine nines carry 81", market.needed(999999999, 9, 81, 8, 1), 1);
        DUE.is("15: and leave nothing for the next call", market.needed(1, 2, 1, 0, 1), 2);
    }

    private static void promise15ByTrying() {
        Random random = new Random(15);
        for (int turn = 0; turn < 500; turn++) {
            Market market = new Market();
            int n = 1 + random.nextInt(9);
            int votes = random.nextInt(power10(1 + random.nextInt(n)));
            int[] digits = digits(votes, n);
            int sum = 0;
            for (int digit : digits) {
                sum += digit;
            }
            int q = random.nextInt(8) == 0 ? 1 + random.nextInt(81) : 1 + random.nextInt(Math.max(1, sum));
            for (int i = 0; i < n; i++) {
                String call = "15: needed(" + votes + ", " + n + ", " + q + ", " + i;
                DUE.is(call + ", 0)", market.needed(votes, n, q, i, 0), sets(digits, q, i));
                DUE.is(call + ", 1)", market.needed(votes, n, q, i, 1), sets(digits, q, -1));
            }
        }
    }

    private static int sets(int[] votes, int q, int i) {
        int sets = 0;
        for (int set = 0; set < 1 << votes.length; set++) {
            int sum = 0;
            for (int voter = 0; voter < votes.length; voter++) {
                sum += (set >> voter & 1) * votes[voter];
            }
            boolean counts = i < 0 ? sum >= q : (set >> i & 1) == 0 && sum < q && sum + votes[i] >= q;
            sets += counts ? 1 : 0;
        }
        return sets;
    }

    private static void promise15Refused() {
        Market market = new Market();
        String seen = Due.seenOf(market);
        int[] outsideN = {0, 10, -1, Integer.MIN_VALUE, Integer.MAX_VALUE};
        for (int n : outsideN) {
            DUE.is("15: needed(1, " + n + ", ..)", market.needed(1, n, 1, 0, 0), OUTSIDE);
            DUE.is("15: needed(0, " + n + ", ..)", market.needed(0, n, 1, 0, 1), OUTSIDE);
        }
        int[] outsideQ = {0, 82, -1, Integer.MIN_VALUE, Integer.MAX_VALUE};
        for (int q : outsideQ) {
            DUE.is("15: q " + q, market.needed(1, 1, q, 0, 0), OUTSIDE);
            DUE.is("15: q " + q, market.needed(1, 1, q, 0, 1), OUTSIDE);
        }
        for (int n = 1; n <= 9; n++) {
            int most = power10(n) - 1;
            DUE.holds("15: " + n + " digits", market.needed(most, n, 1, n - 1, 0) >= 0);
            DUE.is("15: " + n + " digits and one", market.needed(most + 1, n, 1, n - 1, 0), OUTSIDE);
            DUE.is("15: " + n + " digits and one", market.needed(most + 1, n, 1, 0, 1), OUTSIDE);
            DUE.is("15: i " + n, market.needed(1, n, 1, n, 0), OUTSIDE);
            DUE.is("15: i " + n + " is no matter, but as told", market.needed(1, n, 1, n, 1), OUTSIDE);
            DUE.is("15: i -1", market.needed(1, n, 1, -1, 0), OUTSIDE);
            DUE.is("15: i -1 is no matter, but as told", market.needed(1, n, 1, -1, 1), OUTSIDE);
        }
        int[] noRows = {-1, -999999999, Integer.MIN_VALUE, Integer.MAX_VALUE};
        for (int votes : noRows) {
            DUE.is("15: votes " + votes, market.needed(votes, 9, 1, 0, 0), OUTSIDE);
        }
        for (int what : NOT_0_OR_1) {
            DUE.is("15: what " + what, market.needed(1, 1, 1, 0, what), OUTSIDE);
        }
        DUE.is("15: all behind it", Due.seenOf(market), seen);
    }

    private static void traded(int row, int n, int k, int most, int times) {
        Market market = new Market();
        String call = "16: trade(" + row + ", " + n + ", " + k;
        DUE.is(call + ", 0)", market.trade(row, n, k, 0), most);
        DUE.is(call + ", 1)", market.trade(row, n, k, 1), times);
    }

    private static void promise16ByHand() {
        traded(9, 1, 9, 0, 0);
        traded(9, 2, 9, 9, 1);
        traded(9, 2, 0, 0, 0);
        traded(90, 2, 9, 0, 0);
        traded(55555, 5, 9, 0, 0);
        traded(12345, 5, 4, 4, 1);
        traded(909090909, 9, 9, 36, 4);
        traded(909090909, 9, 4, 36, 4);
        traded(909090909, 9, 3, 27, 3);
        traded(909090909, 9, 1, 9, 1);
        traded(10102, 5, 9, 3, 2);
        traded(20211, 5, 9, 2, 1);
        traded(192, 3, 2, 8, 1);
        traded(152637, 6, 2, 9, 2);
    }

    private static void promise16ByTrying() {
        Random random = new Random(16);
        for (int turn = 0; turn < 300; turn++) {
            Market market = new Market();
            int n = 1 + random.nextInt(9);
            int row = random.nextInt(power10(n));
            int[] best = new int[10];
            bring(digits(row, n), 0, -1, 0, 0, best);
            for (int k = 0; k < 10; k++) {
                int most = 0;
                int times = 0;
                for (int t = 1; t <= k; t++) {
                    if (best[t] > most) {
                        most = best[t];
                        times = t;
                    }
                }
                String call = "16: trade(" + row + ", " + n + ", " + k;
                DUE.is(call + ", 0)", market.trade(row, n, k, 0), most);
                DUE.is(call + ", 1)", market.trade(row, n, k, 1), times);
            }
        }
    }

    /** Puts the most that each number of times brings into best; paid is -1 with no cabbage. */
    private static void bring(int[] prices, int day, int paid, int brought, int times, int[] best) {
        if (paid < 0) {
            best[times] = Math.max(best[times], brought);
        }
        if (day == prices.length) {
            return;
        }
        bring(prices, day + 1, paid, brought, times, best);
        if (paid < 0) {
            bring(prices, day + 1, prices[day], brought, times, best);
        } else {
            int gain = brought + prices[day] - paid;
            bring(prices, day + 1, -1, gain, times + 1, best);
            bring(prices, day + 1, prices[day], gain, times + 1, best);
        }
    }

    private static void promise16Refused() {
        Market market = new Market();
        String seen = Due.seenOf(market);
        int[] outsideN = {0, 10, -1, Integer.MIN_VALUE, Integer.MAX_VALUE};
        for (int n : outsideN) {
            DUE.is("16: trade(1, " + n + ", ..)", market.trade(1, n, 1, 0), OUTSIDE);
            DUE.is("16: trade(0, " + n + ", ..)", market.trade(0, n, 1, 0), OUTSIDE);
        }
        for (int n = 1; n <= 9; n++) {
            int most = power10(n) - 1;
            DUE.is("16: " + n + " digits", market.trade(most, n, 9, 0), 0);
            DUE.is("16: " + n + " digits and one", market.trade(most + 1, n, 9, 0), OUTSIDE);
            DUE.is("16: " + n + " digits and one", market.trade(most + 1, n, 9, 1), OUTSIDE);
        }
        int[] noRows = {-1, -999999999, Integer.MIN_VALUE, Integer.MAX_VALUE};
        for (int row : noRows) {
            DUE.is("16: row " + row, market.trade(row, 9, 1, 0), OUTSIDE);
        }
        int[] outsideK = {-1, 10, Integer.MIN_VALUE, Integer.MAX_VALUE};
        for (int k : outsideK) {
            DUE.is("16: k " + k, market.trade(19, 2, k, 0), OUTSIDE);
        }
        for (int what : NOT_0_OR_1) {
            DUE.is("16: what " + what, market.trade(19, 2, 1, what), OUTSIDE);
        }
        DUE.is("16: all behind it", Due.seenOf(market), seen);
    }

    private static int power10(int n) {
        int power = 1;
        for (int i = 0; i < n; i++) {
            power *= 10;
        }
        return power;
    }

    private static int[] digits(int row, int n) {
        String text = "0".repeat(9) + row;
        text = text.substring(text.length() - n);
        int[] digits = new int[n];
        for (int i = 0; i < n; i++) {
            digits[i] = text.charAt(i) - '0';
        }
        return digits;
    }
}

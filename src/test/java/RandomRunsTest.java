import java.util.Random;

/** Long runs of drawn calls, each answer held against the Model's. */
public final class RandomRunsTest {
    private static final Due DUE = new Due("RandomRunsTest");
    private static final int RUNS = 400;
    private static final int CALLS = 512;
    private static final int MOST_IN_A_STEP = 20;
    private static final int NONE = ChalkMarket.NONE;
    private static final int UNKNOWN = ChalkMarket.UNKNOWN;
    private static final int OUTSIDE = ChalkMarket.OUTSIDE;
    private static final int NO = ChalkMarket.NO;

    private final Random random;
    private final String name;
    private final ChalkMarket market = new ChalkMarket();
    private final Model[] images = new Model[2];
    private Model model = new Model();
    private int calls;

    private RandomRunsTest(int seed) {
        random = new Random(seed);
        name = "run " + seed + ", ";
    }

    public static void main(String[] args) {
        for (int seed = 0; seed < RUNS; seed++) {
            RandomRunsTest run = new RandomRunsTest(seed);
            while (run.calls + MOST_IN_A_STEP <= CALLS) {
                run.step();
            }
        }
        DUE.end();
    }

    private void due(String call, int got, int want) {
        calls++;
        if (calls > CALLS) {
            throw new IllegalStateException("more than 512 calls: " + call);
        }
        DUE.is(name + call, got, want);
    }

    /** A number of the range, or now and then one beside it or far off. */
    private int near(int least, int most) {
        switch (random.nextInt(60)) {
            case 0:
                return least - 1;
            case 1:
                return most + 1;
            case 2:
                return random.nextInt();
            case 3:
                return random.nextBoolean() ? Integer.MIN_VALUE : Integer.MAX_VALUE;
            default:
                return least + random.nextInt(most - least + 1);
        }
    }

    private static boolean in(int number, int least, int most) {
        return least <= number && number <= most;
    }

    private void step() {
        switch (random.nextInt(16)) {
            case 0:
                setOne();
                break;
            case 1:
                setCartAndDay();
                break;
            case 2:
            case 3:
            case 4:
            case 5:
                write();
                break;
            case 6:
                due("wipe()", market.wipe(), model.pad.length());
                model.pad = "";
                break;
            case 7:
                look();
                break;
            case 8:
                then();
                break;
            case 9:
            case 10:
                finish();
                break;
            case 11:
                liveYear();
                break;
            case 12:
                keep();
                break;
            case 13:
                sight();
                break;
            default:
                tell();
        }
    }

    private void setOne() {
        int one = near(0, 7);
        int thinks = near(-1, 6);
        int sure = near(0, 9);
        int coin = near(0, random.nextBoolean() ? 8 : 99);
        int want = OUTSIDE;
        if (!in(one, 0, 7)) {
            want = UNKNOWN;
        } else if (in(thinks, -1, 6) && in(sure, 0, 9) && in(coin, 0, 99)) {
            want = 100 * model.sure[one] + model.coin[one];
            model.thinks[one] = thinks;
            model.sure[one] = sure;
            model.coin[one] = coin;
        }
        due("one(" + one + ", " + thinks + ", " + sure + ", " + coin + ")", market.one(one, thinks, sure, coin), want);
    }

    private void setCartAndDay() {
        int cart = near(0, 3);
        int far = near(0, random.nextBoolean() ? 1 : 9);
        int want = !in(cart, 0, 3) ? UNKNOWN : !in(far, 0, 9) ? OUTSIDE : model.far[cart];
        if (want >= 0) {
            model.far[cart] = far;
        }
        due("cart(" + cart + ", " + far + ")", market.cart(cart, far), want);
        int day = near(0, 6);
        due("day(" + day + ")", market.day(day), in(day, 0, 6) ? model.day : OUTSIDE);
        model.day = in(day, 0, 6) ? day : model.day;
    }

    private void sayAll(String text) {
        for (int i = 0; i < text.length(); i++) {
            int sign = random.nextInt(300) == 0 ? near(33, 126) : text.charAt(i);
            int want = !in(sign, 33, 126) ? OUTSIDE : model.pad.length() == 60 ? ChalkMarket.FULL : model.pad.length() + 1;
            model.pad = want >= 0 ? model.pad + (char) sign : model.pad;
            due("say(" + sign + ")", market.say(sign), want);
        }
    }

    /** Mostly ACTS that can be, so that texts get long before they fail. */
    private void write() {
        boolean sound = model.canBeDone();
        Model last = sound ? model.behind() : model;
        for (int i = 1 + random.nextInt(5); i > 0; i--) {
            String act = Model.drawnAct(random.nextInt(65537));
            for (int turn = 0; turn < 5 && last.why(act) != NONE; turn++) {
                act = Model.drawnAct(random.nextInt(65537));
            }
            if (last.why(act) == NONE) {
                last = last.copyWithPad(act).behind();
            } else if (random.nextInt(3) > 0) {
                continue;
            }
            sayAll(act);
        }
        due("fault()", market.fault(), model.fault());
    }

    private void look() {
        int what = near(0, 1);
        int want = !in(what, 0, 1) ? OUTSIDE : model.fault() != NONE ? NO : model.judged()[what];
        due("judge(" + what + ") of " + model.pad, market.judge(what), want);
        boolean sound = model.canBeDone();
        Model last = sound ? model.behind() : model;
        int one = near(0, 7);
        int of = near(0, 2);
        want = !in(one, 0, 7) ? UNKNOWN : !in(of, 0, 2) ? OUTSIDE : !sound ? NO
            : of == 0 ? (last.thinks[one] < 0 ? NONE : last.thinks[one]) : of == 1 ? last.sure[one] : last.coin[one];
        due("behind(" + one + ", " + of + ") of " + model.pad, market.behind(one, of), want);
        int cart = near(0, 3);
        want = !in(cart, 0, 3) ? UNKNOWN : sound ? last.far[cart] : NO;
        due("comes(" + cart + ") of " + model.pad, market.comes(cart), want);
    }

    private void then() {
        boolean sound = model.canBeDone();
        Model last = sound ? model.behind() : model;
        int[] want = {last.day, last.theDay(), last.chalk(last.theDay()), last.sold - model.sold, last.morning, last.markets,
            last.firstMarket};
        for (int what = -1; what < 8; what++) {
            int due = !in(what, 0, 6) ? OUTSIDE : sound ? want[what] : NO;
            due("then(" + what + ") of " + model.pad, market.then(what), due);
        }
    }

    private void finish() {
        boolean sound = model.canBeDone();
        due("done() of " + model.pad, market.done(), sound ? model.acts().size() : NO);
        if (sound) {
            model = model.behind();
            model.markets = 0;
            model.firstMarket = NONE;
        }
    }

    private void liveYear() {
        int seed = near(0, 9999);
        int m = near(1, 99);
        Model last = in(seed, 0, 9999) && in(m, 1, 99) ? model.behindYear(seed, m) : null;
        for (int what = -1; what < 4; what++) {
            int want = last == null || !in(what, 0, 2) ? OUTSIDE
                : what == 0 ? last.sold - model.sold : what == 1 ? last.coin[0] : last.markets;
            due("year(" + seed + ", " + m + ", " + what + ")", market.year(seed, m, what), want);
        }
    }

    private void keep() {
        int n = near(0, 1);
        if (random.nextBoolean()) {
            due("image(" + n + ")", market.image(n), in(n, 0, 1) ? 1 : OUTSIDE);
            if (in(n, 0, 1)) {
                images[n] = model.copy();
            }
            return;
        }
        int want = !in(n, 0, 1) ? OUTSIDE : images[n] == null ? ChalkMarket.STATE : 1;
        due("restore(" + n + ")", market.restore(n), want);
        if (want == 1) {
            model = images[n].copyWithPad(model.pad);
        }
    }

    private void sight() {
        int x = near(0, 9);
        int y = near(0, 9);
        int more = near(0, 2);
        boolean right = in(x, 0, 9) && in(y, 0, 9) && in(more, 0, 2);
        int want = !right ? OUTSIDE : model.sights.size() == 8 ? ChalkMarket.FULL : model.sights.size() + 1;
        if (want >= 0) {
            model.sights.add(new int[] {x, y, more});
        }
        due("seen(" + x + ", " + y + ", " + more + ")", market.seen(x, y, more), want);
        if (random.nextInt(12) == 0) {
            due("forget()", market.forget(), model.sights.size());
            model.sights.clear();
        }
        int fit = 0;
        for (int a = 0; a <= 8; a++) {
            for (int b = 0; a + b <= 8; b++) {
                boolean fits = true;
                for (int[] row : model.sights) {
                    int lead = Integer.compare(a + row[0], b + row[1]);
                    fits &= row[2] == (lead > 0 ? 0 : lead < 0 ? 1 : 2);
                }
                fit += fits ? 1 : 0;
            }
        }
        due("slates(-1)", market.slates(-1), fit);
    }

    private void tell() {
        int[] first = {model.pad.length(), model.day, model.theDay(), model.sold, model.morning, model.sights.size()};
        int what = random.nextInt(4) == 0 ? near(0, 5) : near(10, 43);
        int want = OUTSIDE;
        if (in(what, 0, 5)) {
            want = first[what];
        } else if (in(what, 10, 17)) {
            want = model.thinks[what - 10] < 0 ? NONE : model.thinks[what - 10];
        } else if (in(what, 20, 27)) {
            want = model.sure[what - 20];
        } else if (in(what, 30, 37)) {
            want = model.coin[what - 30];
        } else if (in(what, 40, 43)) {
            want = model.far[what - 40];
        }
        due("told(" + what + ")", market.told(what), want);
        int day = near(0, 6);
        due("chalk(" + day + ")", market.chalk(day), in(day, 0, 6) ? model.chalk(day) : OUTSIDE);
    }
}

/**
 * The market of the wary borough, whose day is the one that has got least chalk. README.md tells
 * how it is used; the numbered promises are in the project's document.
 *
 * <p>All rows are made by the constructor and used again, so that no later call makes an object.
 */
public final class ChalkMarket {
    public static final int NONE = -6, UNKNOWN = -1, OUTSIDE = -2, STATE = -3, FULL = -4, NO = -5;
    public static final long LOST = -1000000000000000000L;

    private static final int DAYS = 7;
    private static final int ONES = 8;
    private static final int CARTS = 4;
    private static final int OF_NONE = -1;
    private static final int SUREST = 9;
    private static final int MOST_COIN = 99;
    private static final int PAYMENT = 3;
    private static final int FARTHEST = 9;
    private static final int LAST_MORNING = 99;

    private static final int MOST_SIGNS = 60;
    private static final int FIRST_SIGN = 33;
    private static final int LAST_SIGN = 126;

    private static final int THINK = 0;
    private static final int SURER = 1;
    private static final int TALK = 2;
    private static final int PAY = 3;
    private static final int COME = 4;
    private static final int MORNING = 5;

    private static final int MOST_DIGITS = 9;
    private static final int MOST_VOTES = 81;
    private static final int MOST_TRADES = 9;

    private static final int MOST_SIGHTS = 8;
    private static final int MOST_MORE = 9;
    private static final int MOST_CAKES = 99;
    private static final int MOST_THINKERS = 12;
    private static final int LAST_SEED = 9999;
    private static final int MOST_DRAWS = 99;

    private static final int[] FIBONACCI = {1, 2, 3, 5, 8, 13, 21, 34, 55, 89};

    private final Borough now;
    private final Pad pad;
    private final Trial trial;
    private final Sights sights;
    private final Image firstImage;
    private final Image secondImage;
    private final Row digits;
    private final Votes voters;
    private final Trades trades;
    private final Bells bells;

    public ChalkMarket() {
        now = new Borough();
        pad = new Pad();
        trial = new Trial();
        sights = new Sights();
        firstImage = new Image();
        secondImage = new Image();
        digits = new Row();
        voters = new Votes();
        trades = new Trades();
        bells = new Bells();
    }

    // ---- 1 people, carts, weeks

    public int one(int one, int thinks, int sure, int coin) {
        if (!isOne(one)) {
            return UNKNOWN;
        }
        boolean ofSome = isDay(thinks) || thinks == OF_NONE;
        if (!ofSome || !isWithin(sure, 0, SUREST) || !isWithin(coin, 0, MOST_COIN)) {
            return OUTSIDE;
        }
        int before = 100 * now.sure[one] + now.coin[one];
        now.thinks[one] = thinks;
        now.sure[one] = sure;
        now.coin[one] = coin;
        return before;
    }

    public int cart(int cart, int far) {
        if (!isCart(cart)) {
            return UNKNOWN;
        }
        if (!isWithin(far, 0, FARTHEST)) {
            return OUTSIDE;
        }
        int before = now.far[cart];
        now.far[cart] = far;
        return before;
    }

    public int day(int day) {
        if (!isDay(day)) {
            return OUTSIDE;
        }
        int before = now.today;
        now.today = day;
        return before;
    }

    public int say(int sign) {
        if (!isWithin(sign, FIRST_SIGN, LAST_SIGN)) {
            return OUTSIDE;
        }
        return pad.add(sign) ? pad.length : FULL;
    }

    public int wipe() {
        return pad.clear();
    }

    public int fault() {
        return pad.firstFault();
    }

    // ---- 2 weeks

    public int judge(int what) {
        if (!isWithin(what, 0, 1)) {
            return OUTSIDE;
        }
        if (pad.firstFault() != NONE) {
            return NO;
        }
        trial.run(pad, now);
        if (trial.why == 0) {
            return NONE;
        }
        return what == 0 ? trial.acts : trial.why;
    }

    public int done() {
        if (!canBeDone()) {
            return NO;
        }
        now.copyFrom(trial.borough);
        pad.clear();
        return trial.acts;
    }

    public int behind(int one, int what) {
        if (!isOne(one)) {
            return UNKNOWN;
        }
        if (!isWithin(what, 0, 2)) {
            return OUTSIDE;
        }
        if (!canBeDone()) {
            return NO;
        }
        switch (what) {
            case 0:
                return dayOrNone(trial.borough.thinks[one]);
            case 1:
                return trial.borough.sure[one];
            default:
                return trial.borough.coin[one];
        }
    }

    public int comes(int cart) {
        if (!isCart(cart)) {
            return UNKNOWN;
        }
        return canBeDone() ? trial.borough.far[cart] : NO;
    }

    public int then(int what) {
        if (!isWithin(what, 0, 6)) {
            return OUTSIDE;
        }
        if (!canBeDone()) {
            return NO;
        }
        Borough last = trial.borough;
        switch (what) {
            case 0:
                return last.today;
            case 1:
                return last.leastDay();
            case 2:
                return last.chalkOf(last.leastDay());
            case 3:
                return last.sold - now.sold;
            case 4:
                return last.morning;
            case 5:
                return last.markets - now.markets;
            default:
                return trial.firstMarket;
        }
    }

    public int chalk(int day) {
        return isDay(day) ? now.chalkOf(day) : OUTSIDE;
    }

    // ---- 3 swaying, votes, trade

    public int sway(int day) {
        return isDay(day) ? now.fewestToSway(day) : OUTSIDE;
    }

    public int needed(int votes, int n, int q, int i, int what) {
        if (!digits.read(votes, n) || !isWithin(q, 1, MOST_VOTES)) {
            return OUTSIDE;
        }
        if (!isWithin(i, 0, n - 1) || !isWithin(what, 0, 1)) {
            return OUTSIDE;
        }
        return what == 0 ? voters.neededSets(digits, q, i) : voters.carryingSets(digits, q);
    }

    public int trade(int row, int n, int k, int what) {
        if (!digits.read(row, n) || !isWithin(k, 0, MOST_TRADES) || !isWithin(what, 0, 1)) {
            return OUTSIDE;
        }
        trades.run(digits, k);
        return what == 0 ? trades.most(k) : trades.fewest(k);
    }

    // ---- 4 slates, cakes, bells

    public int seen(int x, int y, int more) {
        if (!isWithin(x, 0, MOST_MORE) || !isWithin(y, 0, MOST_MORE) || !isWithin(more, 0, 2)) {
            return OUTSIDE;
        }
        return sights.add(x - y, more) ? sights.count : FULL;
    }

    public int forget() {
        return sights.clear();
    }

    public int slates(int i) {
        return i == -1 ? sights.countSlates() : sights.slate(i);
    }

    public int ask(int what) {
        if (!isWithin(what, 0, 1)) {
            return OUTSIDE;
        }
        return sights.bestQuestion(what == 1);
    }

    public int cakes(int n, int m, int what) {
        if (!isWithin(n, 0, MOST_CAKES) || !isWithin(m, 0, MOST_CAKES) || !isWithin(what, 0, 1)) {
            return OUTSIDE;
        }
        int take = leastWinningTake(n);
        boolean wins = n > 0 && take <= m;
        if (what == 0) {
            return wins ? 1 : 0;
        }
        return wins ? take : NONE;
    }

    public long rung(int n, int m, int d, int what, int part) {
        if (!isWithin(n, 0, MOST_THINKERS) || !isWithin(m, 1, DAYS) || !isWithin(d, 0, m - 1)) {
            return LOST + OUTSIDE;
        }
        if (!isWithin(what, 0, 1) || !isWithin(part, 0, 1)) {
            return LOST + OUTSIDE;
        }
        long upper = what == 0 ? bells.waysToRing(n, m, d) : power(m - 1, n);
        return inLowestTerms(upper, power(m, n), part);
    }

    public int year(int seed, int m, int what) {
        if (!isWithin(seed, 0, LAST_SEED) || !isWithin(m, 1, MOST_DRAWS) || !isWithin(what, 0, 2)) {
            return OUTSIDE;
        }
        Borough drawn = trial.borough;
        drawn.copyFrom(now);
        drawn.liveByDraws(seed, m);
        switch (what) {
            case 0:
                return drawn.sold - now.sold;
            case 1:
                return drawn.coin[0];
            default:
                return drawn.markets - now.markets;
        }
    }

    public int image(int n) {
        if (!isWithin(n, 0, 1)) {
            return OUTSIDE;
        }
        imageOf(n).keep(now, sights);
        return 1;
    }

    public int restore(int n) {
        if (!isWithin(n, 0, 1)) {
            return OUTSIDE;
        }
        return imageOf(n).giveBack(now, sights) ? 1 : STATE;
    }

    public int told(int what) {
        switch (what) {
            case 0:
                return pad.length;
            case 1:
                return now.today;
            case 2:
                return now.leastDay();
            case 3:
                return now.sold;
            case 4:
                return now.morning;
            case 5:
                return sights.count;
            default:
                return toldOfSome(what);
        }
    }

    private int toldOfSome(int what) {
        if (isOne(what - 10)) {
            return dayOrNone(now.thinks[what - 10]);
        }
        if (isOne(what - 20)) {
            return now.sure[what - 20];
        }
        if (isOne(what - 30)) {
            return now.coin[what - 30];
        }
        return isCart(what - 40) ? now.far[what - 40] : OUTSIDE;
    }

    /** Two fields instead of an array, whose places might hold nothing. */
    private Image imageOf(int n) {
        return n == 0 ? firstImage : secondImage;
    }

    /** Leaves behind, in the trial, how all is when the WEEKS on the PAD are over. */
    private boolean canBeDone() {
        if (pad.firstFault() != NONE) {
            return false;
        }
        trial.run(pad, now);
        return trial.why == 0;
    }

    private static boolean isWithin(int number, int least, int most) {
        return number >= least && number <= most;
    }

    private static boolean isOne(int one) {
        return one >= 0 && one < ONES;
    }

    private static boolean isCart(int cart) {
        return cart >= 0 && cart < CARTS;
    }

    private static boolean isDay(int day) {
        return day >= 0 && day < DAYS;
    }

    private static int dayOrNone(int thinks) {
        return thinks == OF_NONE ? NONE : thinks;
    }

    /** How much chalk another day must have, so that a day with so much is THE DAY beside it. */
    private static int leastBeside(int other, int day, int chalkOfDay) {
        return other < day ? chalkOfDay + 1 : chalkOfDay;
    }

    /**
     * Of n as a sum of Fibonacci numbers, each the largest that fits, the last one. Who takes it
     * leaves a sum whose last one is more than twice as much, so beyond the other one's reach; who
     * takes less leaves a sum whose last one is within it.
     */
    private static int leastWinningTake(int n) {
        int left = n;
        int smallest = 0;
        for (int i = FIBONACCI.length - 1; i >= 0; i--) {
            if (FIBONACCI[i] <= left) {
                smallest = FIBONACCI[i];
                left -= smallest;
            }
        }
        return smallest;
    }

    private static long power(int base, int times) {
        long product = 1;
        for (int i = 0; i < times; i++) {
            product *= base;
        }
        return product;
    }

    private static long inLowestTerms(long upper, long lower, int part) {
        long common = commonDivisor(upper, lower);
        long whole = part == 0 ? upper : lower;
        return common > 1 ? whole / common : whole;
    }

    private static long commonDivisor(long one, long other) {
        long larger = one;
        long smaller = other;
        // Euclid's steps on numbers below 2^34 are at most some fifty.
        for (int step = 0; step < 1000 && smaller != 0; step++) {
            long left = larger % smaller;
            larger = smaller;
            smaller = left;
        }
        return larger;
    }

    /** People, carts and the day, and what can be done to them. */
    private static final class Borough {
        final int[] thinks = new int[ONES];
        final int[] sure = new int[ONES];
        final int[] coin = new int[ONES];
        final int[] far = new int[CARTS];
        final int[] chalk = new int[DAYS];
        int today;
        int morning;
        int sold;
        int markets;

        Borough() {
            for (int one = 0; one < ONES; one++) {
                thinks[one] = OF_NONE;
                sure[one] = 5;
                coin[one] = 10;
            }
            for (int cart = 0; cart < CARTS; cart++) {
                far[cart] = 3;
            }
        }

        void copyFrom(Borough other) {
            for (int one = 0; one < ONES; one++) {
                thinks[one] = other.thinks[one];
                sure[one] = other.sure[one];
                coin[one] = other.coin[one];
            }
            for (int cart = 0; cart < CARTS; cart++) {
                far[cart] = other.far[cart];
            }
            today = other.today;
            morning = other.morning;
            sold = other.sold;
            markets = other.markets;
        }

        int chalkOf(int day) {
            countChalk();
            return isDay(day) ? chalk[day] : 0;
        }

        int leastDay() {
            countChalk();
            int least = 0;
            for (int day = 1; day < DAYS; day++) {
                if (chalk[day] < chalk[least]) {
                    least = day;
                }
            }
            return least;
        }

        private void countChalk() {
            for (int day = 0; day < DAYS; day++) {
                chalk[day] = 0;
            }
            for (int one = 0; one < ONES; one++) {
                int day = thinks[one];
                if (day >= 0 && day < DAYS) {
                    chalk[day]++;
                }
            }
        }

        /** More chalk on the day than now never helps, so only as much or less is tried. */
        int fewestToSway(int day) {
            int most = chalkOf(day);
            int fewest = ONES;
            for (int left = 0; left <= most; left++) {
                fewest = Math.min(fewest, movesToLeave(day, left));
            }
            return fewest;
        }

        /** Those who leave the day fill gaps on others; only if they are too few must more move. */
        private int movesToLeave(int day, int left) {
            int gaps = 0;
            int wanted = left;
            for (int other = 0; other < DAYS; other++) {
                if (other != day) {
                    int least = leastBeside(other, day, left);
                    wanted += least;
                    gaps += Math.max(0, least - chalk[other]);
                }
            }
            int leaving = isDay(day) ? chalk[day] - left : 0;
            return wanted > ONES ? ONES : Math.max(leaving, gaps);
        }

        /** Does an ACT, if it can be: 0; else changes nothing and tells why it can not. */
        int attempt(int kind, int who, int what) {
            switch (kind) {
                case THINK:
                    return think(who, what);
                case SURER:
                    return beSurer(who);
                case TALK:
                    return talk(who, what);
                case PAY:
                    return pay(who, what);
                case COME:
                    return come(what);
                default:
                    return wake();
            }
        }

        private int think(int who, int day) {
            if (!isOne(who) || thinks[who] == day) {
                return 1;
            }
            thinks[who] = day;
            return 0;
        }

        private int beSurer(int who) {
            if (!isOne(who) || sure[who] >= SUREST) {
                return 2;
            }
            sure[who]++;
            return 0;
        }

        private int talk(int who, int other) {
            if (!isOne(who) || !isOne(other) || who == other) {
                return 3;
            }
            if (thinks[who] == OF_NONE) {
                return 4;
            }
            if (sure[other] >= sure[who]) {
                return 5;
            }
            thinks[other] = thinks[who];
            sure[other] = Math.max(0, sure[other] - 1);
            return 0;
        }

        private int pay(int who, int other) {
            if (!isOne(who) || !isOne(other) || who == other) {
                return 3;
            }
            if (coin[who] < PAYMENT) {
                return 6;
            }
            coin[who] -= PAYMENT;
            coin[other] += PAYMENT;
            sure[other] = SUREST;
            return 0;
        }

        private int come(int cart) {
            if (!isCart(cart) || far[cart] == 0) {
                return 7;
            }
            far[cart]--;
            return 0;
        }

        private int wake() {
            if (morning >= LAST_MORNING) {
                return 8;
            }
            morning++;
            today = (today + 1) % DAYS;
            if (today == leastDay()) {
                holdMarket();
            } else {
                bringCartsNearer();
            }
            return 0;
        }

        private void holdMarket() {
            markets++;
            for (int cart = 0; cart < CARTS; cart++) {
                if (far[cart] == 0) {
                    sold++;
                    far[cart] = FARTHEST;
                }
            }
            for (int one = 0; one < ONES; one++) {
                sure[one] = thinks[one] == today ? 0 : Math.min(SUREST, sure[one] + 1);
            }
        }

        private void bringCartsNearer() {
            for (int cart = 0; cart < CARTS; cart++) {
                if (far[cart] > 0) {
                    far[cart]--;
                }
            }
        }

        void liveByDraws(int seed, int draws) {
            int x = seed;
            for (int i = 0; i < draws; i++) {
                x = (75 * x + 74) % 65537;
                actByDraw(x % 8, x / 8 % 8, x / 64);
            }
        }

        private void actByDraw(int who, int lot, int z) {
            switch (lot) {
                case 0:
                case 1:
                    attempt(THINK, who, z % DAYS);
                    break;
                case 2:
                    attempt(THINK, who, OF_NONE);
                    break;
                case 3:
                    attempt(TALK, who, z % ONES);
                    break;
                case 4:
                    attempt(PAY, who, z % ONES);
                    break;
                case 5:
                    attempt(z % 2 == 0 ? SURER : COME, who, z % CARTS);
                    break;
                default:
                    attempt(MORNING, who, 0);
            }
        }
    }

    /** Takes the signs of WEEKS one by one; behind the last sign of an ACT it holds that ACT. */
    private static final class Reader {
        private static final int BETWEEN_ACTS = 0;
        private static final int AFTER_ONE = 1;
        private static final int BEFORE_OTHER = 2;
        private static final int BEFORE_CART = 3;

        private int place;
        int kind;
        int who;
        int what;

        void begin() {
            place = BETWEEN_ACTS;
        }

        boolean isBetweenActs() {
            return place == BETWEEN_ACTS;
        }

        /** Whether the sign can stand here; if not, nothing behind it is of use. */
        boolean take(int sign) {
            switch (place) {
                case BETWEEN_ACTS:
                    return takeFirst(sign);
                case AFTER_ONE:
                    return takeDeed(sign);
                case BEFORE_OTHER:
                    return end(kind, sign - 'A', isOne(sign - 'A'));
                default:
                    return end(COME, sign - '0', isCart(sign - '0'));
            }
        }

        private boolean takeFirst(int sign) {
            if (sign == '.') {
                return end(MORNING, 0, true);
            }
            if (sign == 'c') {
                place = BEFORE_CART;
                return true;
            }
            who = sign - 'A';
            place = AFTER_ONE;
            return isOne(who);
        }

        private boolean takeDeed(int sign) {
            switch (sign) {
                case '-':
                    return end(THINK, OF_NONE, true);
                case '+':
                    return end(SURER, 0, true);
                case '>':
                    return awaitOther(TALK);
                case '$':
                    return awaitOther(PAY);
                default:
                    return end(THINK, sign - '0', isDay(sign - '0'));
            }
        }

        private boolean awaitOther(int deed) {
            kind = deed;
            place = BEFORE_OTHER;
            return true;
        }

        private boolean end(int deed, int object, boolean fits) {
            kind = deed;
            what = object;
            place = BETWEEN_ACTS;
            return fits;
        }
    }

    /** The signs of WEEKS. */
    private static final class Pad {
        private final int[] signs = new int[MOST_SIGNS];
        private final Reader reader = new Reader();
        int length;

        boolean add(int sign) {
            if (length >= MOST_SIGNS) {
                return false;
            }
            signs[length] = sign;
            length++;
            return true;
        }

        int clear() {
            int before = length;
            length = 0;
            return before;
        }

        int signAt(int place) {
            return place >= 0 && place < MOST_SIGNS ? signs[place] : 0;
        }

        int firstFault() {
            reader.begin();
            for (int place = 0; place < length; place++) {
                if (!reader.take(signAt(place))) {
                    return place;
                }
            }
            return reader.isBetweenActs() ? NONE : length;
        }
    }

    /** WEEKS without a FAULT, gone through on a copy of the borough up to what can not be. */
    private static final class Trial {
        final Borough borough = new Borough();
        private final Reader reader = new Reader();
        int acts;
        int why;
        int firstMarket;

        void run(Pad pad, Borough from) {
            borough.copyFrom(from);
            acts = 0;
            why = 0;
            firstMarket = NONE;
            reader.begin();
            for (int place = 0; place < pad.length && why == 0; place++) {
                boolean stands = reader.take(pad.signAt(place));
                if (stands && reader.isBetweenActs()) {
                    why = borough.attempt(reader.kind, reader.who, reader.what);
                    acts += why == 0 ? 1 : 0;
                }
                if (firstMarket == NONE && borough.markets > from.markets) {
                    firstMarket = acts - 1;
                }
            }
        }
    }

    /** SIGHTS of two days' chalk. Of a sight only x less y matters, of a slate only a less b. */
    private static final class Sights {
        private static final int MOST_CHALK = 8;

        private final int[] leads = new int[MOST_SIGHTS];
        private final int[] answers = new int[MOST_SIGHTS];
        private final int[] slatesByGap = new int[2 * MOST_CHALK + 1];
        int count;

        boolean add(int lead, int answer) {
            if (count >= MOST_SIGHTS) {
                return false;
            }
            leads[count] = lead;
            answers[count] = answer;
            count++;
            return true;
        }

        int clear() {
            int before = count;
            count = 0;
            return before;
        }

        void copyFrom(Sights other) {
            for (int i = 0; i < MOST_SIGHTS; i++) {
                leads[i] = other.leads[i];
                answers[i] = other.answers[i];
            }
            count = other.count;
        }

        private static int answerFor(int gap) {
            if (gap == 0) {
                return 2;
            }
            return gap > 0 ? 0 : 1;
        }

        private boolean fits(int gap) {
            for (int i = 0; i < count && i < MOST_SIGHTS; i++) {
                if (answerFor(gap + leads[i]) != answers[i]) {
                    return false;
                }
            }
            return true;
        }

        int countSlates() {
            int all = 0;
            for (int a = 0; a <= MOST_CHALK; a++) {
                for (int b = 0; a + b <= MOST_CHALK; b++) {
                    all += fits(a - b) ? 1 : 0;
                }
            }
            return all;
        }

        int slate(int i) {
            int ahead = 0;
            for (int a = 0; a <= MOST_CHALK; a++) {
                for (int b = 0; a + b <= MOST_CHALK; b++) {
                    if (fits(a - b)) {
                        if (ahead == i) {
                            return 10 * a + b;
                        }
                        ahead++;
                    }
                }
            }
            return NONE;
        }

        /** Of the questions with one x less y the least has x or y 0: no other need be tried. */
        int bestQuestion(boolean tellLeft) {
            if (tallySlates() == 0) {
                return NONE;
            }
            int best = 0;
            int fewest = mostLeft(0);
            for (int y = 1; y <= MOST_MORE; y++) {
                int left = mostLeft(-y);
                if (left < fewest) {
                    fewest = left;
                    best = y;
                }
            }
            for (int x = 1; x <= MOST_MORE; x++) {
                int left = mostLeft(x);
                if (left < fewest) {
                    fewest = left;
                    best = 10 * x;
                }
            }
            return tellLeft ? fewest : best;
        }

        private int tallySlates() {
            int all = 0;
            for (int gap = -MOST_CHALK; gap <= MOST_CHALK; gap++) {
                int slates = fits(gap) ? (MOST_CHALK - Math.abs(gap)) / 2 + 1 : 0;
                slatesByGap[gap + MOST_CHALK] = slates;
                all += slates;
            }
            return all;
        }

        private int mostLeft(int lead) {
            int one = 0;
            int other = 0;
            int both = 0;
            for (int gap = -MOST_CHALK; gap <= MOST_CHALK; gap++) {
                int slates = slatesByGap[gap + MOST_CHALK];
                switch (answerFor(gap + lead)) {
                    case 0:
                        one += slates;
                        break;
                    case 1:
                        other += slates;
                        break;
                    default:
                        both += slates;
                }
            }
            return Math.max(one, Math.max(other, both));
        }
    }

    /** All but the PAD, as it was when it was kept. */
    private static final class Image {
        private final Borough borough = new Borough();
        private final Sights sights = new Sights();
        private boolean isKept;

        void keep(Borough fromBorough, Sights fromSights) {
            borough.copyFrom(fromBorough);
            sights.copyFrom(fromSights);
            isKept = true;
        }

        boolean giveBack(Borough toBorough, Sights toSights) {
            if (!isKept) {
                return false;
            }
            toBorough.copyFrom(borough);
            toSights.copyFrom(sights);
            return true;
        }
    }

    /** A number as a row of digits, noughts ahead. */
    private static final class Row {
        private final int[] digits = new int[MOST_DIGITS];
        int length;

        boolean read(int number, int places) {
            if (number < 0 || !isWithin(places, 1, MOST_DIGITS)) {
                return false;
            }
            length = places;
            int ahead = number;
            for (int i = places - 1; i >= 0; i--) {
                digits[i] = ahead % 10;
                ahead /= 10;
            }
            return ahead == 0;
        }

        int digit(int i) {
            return isWithin(i, 0, MOST_DIGITS - 1) ? digits[i] : 0;
        }
    }

    /** Sets of those who vote, counted by how many votes they have together. */
    private static final class Votes {
        private static final int NOBODY = -1;

        private final int[] sets = new int[MOST_VOTES + 1];

        int neededSets(Row row, int quota, int i) {
            countSets(row, i);
            return setsWithin(quota - row.digit(i), quota - 1);
        }

        int carryingSets(Row row, int quota) {
            countSets(row, NOBODY);
            return setsWithin(quota, MOST_VOTES);
        }

        private void countSets(Row row, int leftOut) {
            for (int sum = 1; sum <= MOST_VOTES; sum++) {
                sets[sum] = 0;
            }
            sets[0] = 1;
            for (int i = 0; i < row.length; i++) {
                if (i != leftOut) {
                    addVoter(row.digit(i));
                }
            }
        }

        /** From the most votes down, so that nobody votes twice in a set. */
        private void addVoter(int votes) {
            int own = Math.max(0, votes);
            for (int sum = MOST_VOTES; sum >= own; sum--) {
                sets[sum] += sets[sum - own];
            }
        }

        private int setsWithin(int least, int most) {
            int all = 0;
            for (int sum = Math.max(0, least); sum <= most && sum <= MOST_VOTES; sum++) {
                all += sets[sum];
            }
            return all;
        }
    }

    /** The most that so many times, at the most, have brought, with no cabbage and with one. */
    private static final class Trades {
        private static final int NEVER = -1000;

        private final int[] empty = new int[MOST_TRADES + 1];
        private final int[] holding = new int[MOST_TRADES + 1];

        void run(Row prices, int times) {
            for (int t = 0; t <= MOST_TRADES; t++) {
                empty[t] = 0;
                holding[t] = NEVER;
            }
            for (int i = 0; i < prices.length; i++) {
                goToMarket(prices.digit(i), times);
            }
        }

        private void goToMarket(int price, int times) {
            for (int t = 1; t <= times && t <= MOST_TRADES; t++) {
                empty[t] = Math.max(empty[t], holding[t] + price);
                holding[t] = Math.max(holding[t], empty[t - 1] - price);
            }
        }

        int most(int times) {
            return isWithin(times, 0, MOST_TRADES) ? empty[times] : 0;
        }

        int fewest(int times) {
            int most = most(times);
            for (int t = 0; t < times; t++) {
                if (most(t) == most) {
                    return t;
                }
            }
            return times;
        }
    }

    /** In how many ways people, one of them unlike another, can think. */
    private static final class Bells {
        private final long[] ways = new long[MOST_THINKERS + 1];

        /** The day is the least beside all others only with at most its share of the chalk. */
        long waysToRing(int people, int days, int day) {
            long all = 0;
            for (int chalk = 0; chalk <= people && chalk * days <= people; chalk++) {
                begin();
                for (int other = 0; other < days; other++) {
                    if (other != day) {
                        addDay(people - chalk, leastBeside(other, day, chalk));
                    }
                }
                all += choices(people, chalk) * waysOf(people - chalk);
            }
            return all;
        }

        private void begin() {
            ways[0] = 1;
            for (int people = 1; people <= MOST_THINKERS; people++) {
                ways[people] = 0;
            }
        }

        /** From the most people down, so that each row of sums is made from the one before it. */
        private void addDay(int most, int least) {
            for (int people = Math.min(most, MOST_THINKERS); people >= 0; people--) {
                long sum = 0;
                long choices = 1;
                for (int here = 0; here <= people; here++) {
                    if (here >= least) {
                        sum += choices * ways[people - here];
                    }
                    choices = choices * (people - here) / (here + 1);
                }
                ways[people] = sum;
            }
        }

        private static long choices(int people, int some) {
            long choices = 1;
            for (int here = 0; here < some; here++) {
                choices = choices * (people - here) / (here + 1);
            }
            return choices;
        }

        private long waysOf(int people) {
            return isWithin(people, 0, MOST_THINKERS) ? ways[people] : 0;
        }
    }
}

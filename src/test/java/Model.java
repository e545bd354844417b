import java.util.ArrayList;
import java.util.List;
import java.util.regex.Matcher;
import java.util.regex.Pattern;

/**
 * The stateful part of the document told a second time, in other ways than the class has: texts are
 * cut by patterns, and every reason is looked at before the least is taken.
 */
final class Model {
    private static final String ACT = "[A-H](?:[0-6+-]|[>$][A-H])|c[0-3]|\\.";
    private static final Pattern ONE_ACT = Pattern.compile(ACT);
    private static final Pattern WEEKS = Pattern.compile("(?:" + ACT + ")*");
    private static final int NONE = ChalkMarket.NONE;

    String pad = "";
    List<int[]> sights = new ArrayList<>();
    int day;
    int morning;
    int sold;
    int markets;
    int firstMarket = NONE;
    int[] thinks = {-1, -1, -1, -1, -1, -1, -1, -1};
    int[] sure = {5, 5, 5, 5, 5, 5, 5, 5};
    int[] coin = {10, 10, 10, 10, 10, 10, 10, 10};
    int[] far = {3, 3, 3, 3};

    /** All but the PAD. */
    Model copy() {
        Model copy = new Model();
        copy.sights = new ArrayList<>(sights);
        copy.day = day;
        copy.morning = morning;
        copy.sold = sold;
        copy.thinks = thinks.clone();
        copy.sure = sure.clone();
        copy.coin = coin.clone();
        copy.far = far.clone();
        return copy;
    }

    Model copyWithPad(String text) {
        Model copy = copy();
        copy.pad = text;
        return copy;
    }

    int chalk(int of) {
        int chalk = 0;
        for (int one = 0; one < 8; one++) {
            chalk += thinks[one] == of ? 1 : 0;
        }
        return chalk;
    }

    int theDay() {
        for (int least = 0; least <= 8; least++) {
            for (int of = 0; of < 7; of++) {
                if (chalk(of) == least) {
                    return of;
                }
            }
        }
        return NONE;
    }

    int fault() {
        for (int end = 1; end <= pad.length(); end++) {
            Matcher start = WEEKS.matcher(pad.substring(0, end));
            if (!start.matches() && !start.hitEnd()) {
                return end - 1;
            }
        }
        return WEEKS.matcher(pad).matches() ? NONE : pad.length();
    }

    List<String> acts() {
        List<String> acts = new ArrayList<>();
        Matcher next = ONE_ACT.matcher(pad);
        while (next.find()) {
            acts.add(next.group());
        }
        return acts;
    }

    /** The least reason for which an ACT can not be; NONE. */
    int why(String act) {
        int who = act.charAt(0) - 'A';
        char deed = act.length() > 1 ? act.charAt(1) : ' ';
        int other = act.length() > 2 ? act.charAt(2) - 'A' : -1;
        boolean talk = deed == '>';
        boolean pay = deed == '$';
        boolean cart = act.charAt(0) == 'c';
        boolean opinion = !cart && (Character.isDigit(deed) || deed == '-');
        boolean[] reasons = new boolean[9];
        reasons[1] = opinion && thinks[who] == (deed == '-' ? -1 : deed - '0');
        reasons[2] = deed == '+' && sure[who] == 9;
        reasons[3] = (talk || pay) && who == other;
        reasons[4] = talk && thinks[who] == -1;
        reasons[5] = talk && sure[other] >= sure[who];
        reasons[6] = pay && coin[who] < 3;
        reasons[7] = cart && far[deed - '0'] == 0;
        reasons[8] = act.equals(".") && morning == 99;
        for (int why = 1; why < 9; why++) {
            if (reasons[why]) {
                return why;
            }
        }
        return NONE;
    }

    void perform(String act, int number) {
        if (act.equals(".")) {
            wake(number);
            return;
        }
        char deed = act.charAt(1);
        if (act.charAt(0) == 'c') {
            far[deed - '0']--;
            return;
        }
        int who = act.charAt(0) - 'A';
        if (deed == '+') {
            sure[who]++;
        } else if (deed == '-') {
            thinks[who] = -1;
        } else if (deed == '>') {
            int other = act.charAt(2) - 'A';
            thinks[other] = thinks[who];
            sure[other] = sure[other] == 0 ? 0 : sure[other] - 1;
        } else if (deed == '$') {
            int other = act.charAt(2) - 'A';
            coin[who] -= 3;
            coin[other] += 3;
            sure[other] = 9;
        } else {
            thinks[who] = deed - '0';
        }
    }

    private void wake(int number) {
        morning++;
        day = day == 6 ? 0 : day + 1;
        boolean market = day == theDay();
        if (market) {
            markets++;
            firstMarket = firstMarket == NONE ? number : firstMarket;
        }
        for (int cart = 0; cart < 4; cart++) {
            if (market && far[cart] == 0) {
                sold++;
                far[cart] = 9;
            } else if (!market && far[cart] != 0) {
                far[cart]--;
            }
        }
        for (int one = 0; one < 8 && market; one++) {
            sure[one] = thinks[one] == day ? 0 : sure[one] == 9 ? 9 : sure[one] + 1;
        }
    }

    /** The ACT that can not be, and why; NONE twice. The text has no FAULT. */
    int[] judged() {
        Model trial = copy();
        List<String> acts = acts();
        for (int i = 0; i < acts.size(); i++) {
            int why = trial.why(acts.get(i));
            if (why != NONE) {
                return new int[] {i, why};
            }
            trial.perform(acts.get(i), i);
        }
        return new int[] {NONE, NONE};
    }

    boolean canBeDone() {
        return fault() == NONE && judged()[0] == NONE;
    }

    /** How all is when the WEEKS on the PAD are over; they can be done. */
    Model behind() {
        Model last = copy();
        List<String> acts = acts();
        for (int i = 0; i < acts.size(); i++) {
            last.perform(acts.get(i), i);
        }
        return last;
    }

    static String drawnAct(int x) {
        char who = (char) ('A' + x % 8);
        int z = x / 64;
        switch (x / 8 % 8) {
            case 0:
            case 1:
                return who + "" + z % 7;
            case 2:
                return who + "-";
            case 3:
                return who + ">" + (char) ('A' + z % 8);
            case 4:
                return who + "$" + (char) ('A' + z % 8);
            case 5:
                return z % 2 == 0 ? who + "+" : "c" + z % 4;
            default:
                return ".";
        }
    }

    Model behindYear(int seed, int m) {
        Model year = copy();
        int x = seed;
        for (int i = 0; i < m; i++) {
            x = (75 * x + 74) % 65537;
            if (year.why(drawnAct(x)) == NONE) {
                year.perform(drawnAct(x), i);
            }
        }
        return year;
    }
}

import java.lang.reflect.Method;
import java.util.HashMap;
import java.util.Map;

/** One object, called by texts as "one(0, -1, MIN, MAX)", and at most 512 times. */
final class Telling {
    private static final int MOST_CALLS = 512;
    private static final Map<String, Method> METHODS = new HashMap<>();

    static {
        for (Method method : ChalkMarket.class.getDeclaredMethods()) {
            METHODS.put(method.getName(), method);
        }
    }

    private final ChalkMarket market = new ChalkMarket();
    private int calls;

    long ask(String call) {
        calls++;
        if (calls > MOST_CALLS) {
            throw new IllegalStateException("more than 512 calls: " + call);
        }
        int open = call.indexOf('(');
        String inside = call.substring(open + 1, call.length() - 1);
        String[] words = inside.isEmpty() ? new String[0] : inside.split(", ");
        Object[] numbers = new Object[words.length];
        for (int i = 0; i < words.length; i++) {
            numbers[i] = number(words[i]);
        }
        try {
            return ((Number) METHODS.get(call.substring(0, open)).invoke(market, numbers)).longValue();
        } catch (ReflectiveOperationException refused) {
            throw new IllegalStateException(call, refused);
        }
    }

    private static int number(String word) {
        switch (word) {
            case "MIN":
                return Integer.MIN_VALUE;
            case "MAX":
                return Integer.MAX_VALUE;
            default:
                return Integer.parseInt(word);
        }
    }

    void perform(String call) {
        if (call.startsWith("write ")) {
            write(call.substring(6));
        } else if (call.startsWith("do ")) {
            write(call.substring(3));
            if (ask("done()") < 0) {
                throw new IllegalStateException("can not be: " + call);
            }
        } else {
            ask(call);
        }
    }

    private void write(String text) {
        for (int i = 0; i < text.length(); i++) {
            ask("say(" + (int) text.charAt(i) + ")");
        }
    }

    void show(StringBuilder all) {
        show(all, "told(#)", 0, 43);
        show(all, "chalk(#)", 0, 6);
        show(all, "sway(#)", 0, 6);
        show(all, "judge(#)", 0, 1);
        for (int what = 0; what < 3; what++) {
            show(all, "behind(#, " + what + ")", 0, 7);
        }
        show(all, "comes(#)", 0, 3);
        show(all, "then(#)", 0, 6);
        show(all, "slates(#)", -1, 44);
        show(all, "ask(#)", 0, 1);
        show(all, "year(77, 60, #)", 0, 2);
        all.append(" | fault() ").append(ask("fault()"));
    }

    private void show(StringBuilder all, String call, int least, int most) {
        all.append(" | ").append(call);
        for (int number = least; number <= most; number++) {
            all.append(' ').append(ask(call.replace("#", Integer.toString(number))));
        }
    }
}

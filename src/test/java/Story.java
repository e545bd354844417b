import java.util.ArrayList;
import java.util.Arrays;
import java.util.List;

/**
 * Calls in a row, as texts, told to a new object each time something is looked at: so a look may
 * change what it looks at, and no object is asked more often than the document allows. Beside calls
 * of the face there are "write A0." (say() of each sign) and "do A0." (that, then done()).
 */
final class Story {
    private final List<String> calls;
    private String shown;

    private Story(List<String> calls) {
        this.calls = calls;
    }

    static Story of(String... calls) {
        return new Story(Arrays.asList(calls));
    }

    Story and(String... more) {
        List<String> all = new ArrayList<>(calls);
        all.addAll(Arrays.asList(more));
        return new Story(all);
    }

    /** What the last call answers, told behind all the others. */
    long answer(String call) {
        return tell().ask(call);
    }

    Telling tell() {
        Telling telling = new Telling();
        for (String call : calls) {
            telling.perform(call);
        }
        return telling;
    }

    /** All that later calls show of how things are: now, in both IMAGES, and when it is DONE. */
    String shown() {
        if (shown == null) {
            StringBuilder all = new StringBuilder();
            String[] turns = {"told(0)", "restore(0)", "restore(1)", "done()", "wipe()", "forget()"};
            for (String turn : turns) {
                Telling telling = tell();
                all.append('\n').append(turn).append(' ').append(telling.ask(turn));
                telling.show(all);
            }
            shown = all.toString();
        }
        return shown;
    }

    @Override
    public String toString() {
        return calls.toString();
    }
}

/** Answers at the edges, each told under the sentence of the document that names the edge. */
final class Edges {
    private static final String[] FAR_OFF = {"MIN", "MAX"};

    private final Due due;
    private final Doc doc;
    private String at = "";

    Edges(Due due, Doc doc) {
        this.due = due;
        this.doc = doc;
    }

    /** What follows looks at these words of the document. */
    void quote(String section, String words) {
        at = section + ", \"" + words + "\"\n  ";
        due.holds("the document no longer says under " + section + ": " + words, doc.quote(section, words));
    }

    /** Words that name no edge that a call could show. */
    void noEdge(String section, String words) {
        quote(section, words);
    }

    void is(Story story, String call, long want) {
        due.is(at + story + "\n  " + call, story.answer(call), want);
    }

    void same(String what, long got, long want) {
        due.is(at + what, got, want);
    }

    void sameShown(Story story, Story want) {
        due.is(at + story + "\n  all that is shown", story.shown(), want.shown());
    }

    void differs(Story story, Story other) {
        due.holds(at + story + "\n  shows no more than " + other, !story.shown().equals(other.shown()));
    }

    /** The call answers so, and all that later calls show is as it would be without it. */
    void changesNothing(Story story, String call, long want) {
        is(story, call, want);
        due.is(at + story + "\n  all behind " + call, story.and(call).shown(), story.shown());
    }

    /** The call is not refused. */
    void taken(Story story, String call) {
        long got = story.answer(call);
        due.holds(at + story + "\n  " + call + " answered " + got, got >= 0 || got == ChalkMarket.NONE);
    }

    /** The call, with these numbers one by one for #, is refused and changes nothing. */
    void refused(Story story, String call, long refusal, int... numbers) {
        for (int number : numbers) {
            changesNothing(story, call.replace("#", Integer.toString(number)), refusal);
        }
    }

    /** For # all from the least to the most are taken; those beside them, and far off, refused. */
    void limits(Story story, String call, int least, int most, long refusal) {
        for (int number = least; number <= most; number++) {
            taken(story, call.replace("#", Integer.toString(number)));
        }
        refused(story, call, refusal, least - 1, most + 1);
        for (String far : FAR_OFF) {
            changesNothing(story, call.replace("#", far), refusal);
        }
    }
}

/** What the tests share: answers held against those that are due, and small helps. */
final class Due {
    private static final int SHOWN = 40;

    private final String test;
    private int calls;
    private int wrong;

    Due(String test) {
        this.test = test;
    }

    void is(String call, long got, long want) {
        calls++;
        if (got != want) {
            say(call + " answered " + got + ", due is " + want);
        }
    }

    void is(String call, String got, String want) {
        calls++;
        if (!got.equals(want)) {
            say(call + " is\n  " + got + ", due is\n  " + want);
        }
    }

    void holds(String rule, boolean does) {
        calls++;
        if (!does) {
            say(rule);
        }
    }

    private void say(String what) {
        wrong++;
        if (wrong <= SHOWN) {
            System.out.println(test + ": " + what);
        }
    }

    /** Ends the test, with exit code 1 if an answer was wrong. */
    void end() {
        System.out.println(test + ": " + calls + " looked at, " + wrong + " wrong");
        if (wrong != 0 || calls == 0) {
            System.exit(1);
        }
    }

    /** Puts a text on the PAD in place of what was there. */
    static Market put(Market market, String text) {
        market.wipe();
        return write(market, text);
    }

    /** Puts a text on the PAD behind what is there. */
    static Market write(Market market, String text) {
        for (int i = 0; i < text.length(); i++) {
            market.say(text.charAt(i));
        }
        return market;
    }

    /** A new object with a text on its PAD. */
    static Market with(String text) {
        return put(new Market(), text);
    }

    /** Does a text in parts that fit on the PAD; each ACT stands alone in its word. */
    static Market doAll(Market market, String words) {
        for (String word : words.split(" ")) {
            put(market, word);
            if (market.done() < 0) {
                throw new IllegalStateException("can not be: " + word);
            }
        }
        return market;
    }

    static String mornings(int n) {
        return ".".repeat(n);
    }

    /** All that can be seen of an object, without asking that one. */
    static String seenOf(Market asked) {
        Market market = asked.again();
        StringBuilder all = new StringBuilder();
        for (int what = 0; what < 44; what++) {
            if (what < 6 || what > 9) {
                all.append(market.told(what)).append(' ');
            }
        }
        all.append("| ").append(market.fault()).append(' ').append(market.judge(0));
        all.append(' ').append(market.judge(1)).append(" |");
        for (int what = 0; what < 7; what++) {
            all.append(' ').append(market.then(what));
        }
        all.append(" |");
        for (int i = -1; i < 45; i++) {
            all.append(' ').append(market.slates(i));
        }
        return all.toString();
    }
}

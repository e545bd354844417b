import java.util.ArrayList;
import java.util.List;
import java.util.function.ToLongFunction;

/**
 * A ChalkMarket that is never asked more often than the document allows, since what later calls
 * answer is free, and whose calls can be told again to a new object.
 */
final class Market {
    private static final int MOST_CALLS = 512;

    private final ChalkMarket market = new ChalkMarket();
    private final List<ToLongFunction<ChalkMarket>> calls = new ArrayList<>();

    private long tell(ToLongFunction<ChalkMarket> call) {
        calls.add(call);
        if (calls.size() > MOST_CALLS) {
            throw new IllegalStateException("more than 512 calls of one object");
        }
        return call.applyAsLong(market);
    }

    /** A new object that was called as this one was: what it is asked then is not asked of this one. */
    Market again() {
        Market copy = new Market();
        for (ToLongFunction<ChalkMarket> call : calls) {
            copy.tell(call);
        }
        return copy;
    }

    int one(int one, int thinks, int sure, int coin) {
        return (int) tell(face -> face.one(one, thinks, sure, coin));
    }

    int cart(int cart, int far) {
        return (int) tell(face -> face.cart(cart, far));
    }

    int day(int day) {
        return (int) tell(face -> face.day(day));
    }

    int say(int sign) {
        return (int) tell(face -> face.say(sign));
    }

    int wipe() {
        return (int) tell(face -> face.wipe());
    }

    int fault() {
        return (int) tell(face -> face.fault());
    }

    int judge(int what) {
        return (int) tell(face -> face.judge(what));
    }

    int done() {
        return (int) tell(face -> face.done());
    }

    int behind(int one, int what) {
        return (int) tell(face -> face.behind(one, what));
    }

    int comes(int cart) {
        return (int) tell(face -> face.comes(cart));
    }

    int then(int what) {
        return (int) tell(face -> face.then(what));
    }

    int chalk(int day) {
        return (int) tell(face -> face.chalk(day));
    }

    int sway(int day) {
        return (int) tell(face -> face.sway(day));
    }

    int needed(int votes, int n, int q, int i, int what) {
        return (int) tell(face -> face.needed(votes, n, q, i, what));
    }

    int trade(int row, int n, int k, int what) {
        return (int) tell(face -> face.trade(row, n, k, what));
    }

    int seen(int x, int y, int more) {
        return (int) tell(face -> face.seen(x, y, more));
    }

    int forget() {
        return (int) tell(face -> face.forget());
    }

    int slates(int i) {
        return (int) tell(face -> face.slates(i));
    }

    int ask(int what) {
        return (int) tell(face -> face.ask(what));
    }

    int cakes(int n, int m, int what) {
        return (int) tell(face -> face.cakes(n, m, what));
    }

    long rung(int n, int m, int d, int what, int part) {
        return tell(face -> face.rung(n, m, d, what, part));
    }

    int year(int seed, int m, int what) {
        return (int) tell(face -> face.year(seed, m, what));
    }

    int image(int n) {
        return (int) tell(face -> face.image(n));
    }

    int restore(int n) {
        return (int) tell(face -> face.restore(n));
    }

    int told(int what) {
        return (int) tell(face -> face.told(what));
    }
}

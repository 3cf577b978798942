import java.util.function.Supplier;
import java.util.function.ToIntFunction;

/** A call together with the text that names it, so that a test writes it once. */
record Call(String text, ToIntFunction<TimedPair> body) {
    static Call edge(int p, int ends, int resets, int sign) {
        return new Call(text("edge", p, ends, resets, sign), x -> x.edge(p, ends, resets, sign));
    }

    static Call guard(int e, int c, int least, int greatest) {
        return new Call(text("guard", e, c, least, greatest), x -> x.guard(e, c, least, greatest));
    }

    static Call drop(int e) {
        return new Call(text("drop", e), x -> x.drop(e));
    }

    static Call bound(int place, int c, int bound) {
        return new Call(text("bound", place, c, bound), x -> x.bound(place, c, bound));
    }

    static Call urgent(int place, int on) {
        return new Call(text("urgent", place, on), x -> x.urgent(place, on));
    }

    static Call edges() {
        return new Call(text("edges"), TimedPair::edges);
    }

    static Call reached(int pair) {
        return new Call(text("reached", pair), x -> x.reached(pair));
    }

    static Call earliest(int pair) {
        return new Call(text("earliest", pair), x -> x.earliest(pair));
    }

    static Call atMost(int pair, int c, int v) {
        return new Call(text("atMost", pair, c, v), x -> x.atMost(pair, c, v));
    }

    static Call atLeast(int pair, int c, int v) {
        return new Call(text("atLeast", pair, c, v), x -> x.atLeast(pair, c, v));
    }

    static Call pairs() {
        return new Call(text("pairs"), TimedPair::pairs);
    }

    static Call locations(int p) {
        return new Call(text("locations", p), x -> x.locations(p));
    }

    static Call usable(int e) {
        return new Call(text("usable", e), x -> x.usable(e));
    }

    static Call firstUse(int e) {
        return new Call(text("firstUse", e), x -> x.firstUse(e));
    }

    private static String text(String name, int... arguments) {
        StringBuilder text = new StringBuilder(name + "(");
        for (int i = 0; i < arguments.length; i++) {
            text.append(i == 0 ? "" : ", ").append(arguments[i]);
        }
        return text.append(")").toString();
    }

    int on(TimedPair x) {
        return body.applyAsInt(x);
    }

    void due(String run, TimedPair x, int want) {
        Check.due(run + ": " + text, on(x), want);
    }

    /** Refused on such an object, which must then answer as its twin does that never got the call. */
    void refused(String run, Supplier<TimedPair> sample, int code) {
        TimedPair x = sample.get();
        due(run, x, code);
        Sample.alike(run + ", after " + text, x, sample.get());
    }
}

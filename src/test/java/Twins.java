import java.util.function.Predicate;
import java.util.function.Supplier;
import java.util.function.ToLongFunction;

/** Two objects that were made alike: one makes a call more, and all that the document does not name stays alike. */
final class Twins {
    private static final int COUNTERS = 5;
    private static final int NO_COUNTER = -1;

    private Twins() {
    }

    /** A call that answers NONE and is counted by status(counter); nothing else changes. */
    static void refused(String call, Supplier<StreetNames> made, ToLongFunction<StreetNames> asked, int counter) {
        held(call, made, asked, StreetNames.NONE, counter);
    }

    /** A call that answers false and is counted by status(counter); nothing else changes. */
    static void refusedFlag(String call, Supplier<StreetNames> made, Predicate<StreetNames> asked, int counter) {
        held(call, made, x -> asked.test(x) ? 1 : 0, 0, counter);
    }

    /** A question: it has its answer, changes nothing and is never refused. */
    static void tells(String call, Supplier<StreetNames> made, ToLongFunction<StreetNames> asked, long answer) {
        held(call, made, asked, answer, NO_COUNTER);
    }

    private static void held(String call, Supplier<StreetNames> made, ToLongFunction<StreetNames> asked, long answer,
        int counter) {
        StreetNames without = made.get();
        StreetNames with = made.get();
        Check.due(call, asked.applyAsLong(with), answer);
        Check.due(call + ", then fault(0)", with.fault(0), without.fault(0));
        Check.due(call + ", then fault(1)", with.fault(1), without.fault(1));
        same(call, with, without, counter);
    }

    /** All but the FAULT. */
    static void same(String call, StreetNames with, StreetNames without, int counter) {
        for (int what = 0; what < COUNTERS; what++) {
            int due = without.status(what) + (what == counter ? 1 : 0);
            Check.due(call + ", then status(" + what + ")", with.status(what), due);
        }
        Check.same("all else behind " + call, Seen.all(with), Seen.all(without));
    }

    /** A town that has lived: ACTS to undo, two images, a FAULT, a word heard, a word on the tape. */
    static StreetNames lived() {
        StreetNames x = Check.of("near 1;last 3;mute h;same sz;pair ph f;street mill;street milk;alias yew of mill;"
            + "pool oak mizt;house mill left 0 1;house mill right 5 3;");
        x.keep(0);
        x.years(1);
        x.build(1, 0, 20);
        x.keep(1);
        x.undo();
        x.take(1, 0);
        Check.heard(x, "pheaz");
        Check.town(x, "street a;street a;");
        Check.write(x, "yew");
        return x;
    }
}

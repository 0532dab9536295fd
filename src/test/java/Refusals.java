import java.util.EnumMap;
import java.util.List;
import java.util.Map;
import java.util.function.Predicate;
import java.util.function.Supplier;
import java.util.function.ToLongFunction;

/** Asks objects of one state what must be refused; afterwards they must answer as one that was not asked. */
final class Refusals {
    private final Due due;
    private final String state;
    private final Supplier<Depot> maker;
    private final Map<Look, List<String>> notAsked = new EnumMap<>(Look.class);

    Refusals(Due due, String state, Supplier<Depot> maker) {
        this.due = due;
        this.state = state;
        this.maker = maker;
        for (Look look : Look.values()) {
            notAsked.put(look, look.at(maker.get()));
        }
    }

    void isFalse(String call, Predicate<Depot> asked) {
        answers(call, 0, x -> asked.test(x) ? 1 : 0);
    }

    void answers(String call, long answer, ToLongFunction<Depot> asked) {
        for (Look look : Look.values()) {
            Depot x = maker.get();
            due.is(state + ": " + call, asked.applyAsLong(x), answer);
            due.same(state + ": behind " + call + ", " + look, look.at(x), notAsked.get(look));
        }
    }
}

import java.util.function.Consumer;
import java.util.function.Predicate;
import java.util.function.ToIntFunction;

/**
 * Shows of a refused call that nothing was done: the calls that only look answer the same after it as ahead of it,
 * and a house that had the call goes on like one that had not (the tape is seen so alone).
 *
 * <p>An object is promised for 512 calls, so each one is asked only some of the questions, and many are made.
 */
final class Refusals {
    private static final int ASKED_AT_ONCE = 100;

    private final Due due;
    private final Consumer<FindingHouse> ahead;

    /** The calls ahead are to be 200 at most. */
    Refusals(Due due, Consumer<FindingHouse> ahead) {
        this.due = due;
        this.ahead = ahead;
    }

    /** It answers NONE, and nothing is done. */
    void none(String call, ToIntFunction<FindingHouse> refused) {
        nothingIsDone(call, refused, FindingHouse.NONE);
    }

    /** It answers false, and nothing is done. */
    void no(String call, Predicate<FindingHouse> refused) {
        nothingIsDone(call, house -> refused.test(house) ? 1 : 0, 0);
    }

    private void nothingIsDone(String call, ToIntFunction<FindingHouse> refused, int answer) {
        leavesAll(call, refused, answer);
        goOnAlike(call, refused, house -> answer);
    }

    /** A call that answers, but is no CHANGE, and changes nothing that is looked at. */
    void leavesAll(String call, ToIntFunction<FindingHouse> asked, int answer) {
        for (int from = 0; from < Questions.count(); from += ASKED_AT_ONCE) {
            int to = Math.min(from + ASKED_AT_ONCE, Questions.count());
            FindingHouse house = made();
            int[] before = Questions.ask(house, from, to);
            due.same(call, asked.applyAsInt(house), answer);
            compare(call, from, Questions.ask(house, from, to), before);
        }
    }

    /** After either call two houses answer alike, whatever comes next. */
    void goOnAlike(String call, ToIntFunction<FindingHouse> one, ToIntFunction<FindingHouse> other) {
        goOnAlike(call, one, other, Refusals::tapeSize);
        goOnAlike(call, one, other, Refusals::loadTape);
        goOnAlike(call, one, other, house -> house.put(4, 0, Due.use(7)));
    }

    private void goOnAlike(String call, ToIntFunction<FindingHouse> one, ToIntFunction<FindingHouse> other,
            ToIntFunction<FindingHouse> next) {
        for (int from = 0; from < Questions.count(); from += ASKED_AT_ONCE) {
            int to = Math.min(from + ASKED_AT_ONCE, Questions.count());
            FindingHouse had = made();
            FindingHouse hadNot = made();
            due.same(call, one.applyAsInt(had), other.applyAsInt(hadNot));
            due.same("the next call after " + call, next.applyAsInt(had), next.applyAsInt(hadNot));
            compare(call + " and a next call", from, Questions.ask(had, from, to), Questions.ask(hadNot, from, to));
        }
    }

    private FindingHouse made() {
        FindingHouse house = new FindingHouse();
        ahead.accept(house);
        return house;
    }

    private void compare(String call, int from, int[] got, int[] want) {
        for (int k = 0; k < got.length; k++) {
            if (got[k] != want[k]) {
                due.same(Questions.name(from + k) + " after " + call, got[k], want[k]);
            }
        }
        due.holds("all answers after " + call, java.util.Arrays.equals(got, want));
    }

    static int tapeSize(FindingHouse house) {
        for (int n = 40; n > 0; n--) {
            if (house.end(n)) {
                return n;
            }
        }
        return 0;
    }

    /** Its bytes beyond 32 can be seen by no call. */
    private static int loadTape(FindingHouse house) {
        house.end(32);
        return house.load(2);
    }
}

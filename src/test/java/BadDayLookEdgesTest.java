/** The edges of promises 1, 8, 9 and 10 (a new object, bad, day, look), each sentence that names one by itself. */
public final class BadDayLookEdgesTest {
    private static final int LEAST = Integer.MIN_VALUE;
    private static final int MOST = Integer.MAX_VALUE;

    private final Due due = new Due();
    private final Refusals busy = new Refusals(due, Houses::busy);

    public static void main(String[] args) {
        BadDayLookEdgesTest test = new BadDayLookEdgesTest();
        test.aNewObjectHasNothing();
        test.badRefusesTheseNumbers();
        test.badIsASetOf32Bits();
        test.otherBadNumbersAreAChange();
        test.daysGoBy();
        test.daysEndAt10000();
        test.lookTellsWhat0To8();
        test.lookTellsBadNumbersOfMinus1();
        test.changesAreNumberedFrom1();
        test.due.close();
    }

    private void aNewObjectHasNothing() {
        int questions = Questions.count();
        for (int from = 0; from < questions; from += 500) {
            FindingHouse house = new FindingHouse();
            for (int k = from; k < Math.min(from + 500, questions); k++) {
                String name = Questions.name(k);
                boolean counts = name.startsWith("look") || name.startsWith("since");
                due.same("at first " + name, Questions.ask(house, k), counts ? 0 : -1);
            }
        }
        due.same("the TAPE at first", Refusals.tapeSize(new FindingHouse()), 0);
    }

    private void badRefusesTheseNumbers() {
        new Refusals(due, house -> { }).no("bad(0) at first", house -> house.bad(0));
        busy.no("bad of these", house -> house.bad(1 << 4));
        int[] sets = {-1, LEAST, MOST, 1};
        for (int set : sets) {
            Refusals told = new Refusals(due, house -> {
                Houses.busy(house);
                house.bad(set);
            });
            told.no("bad(" + set + ") again", house -> house.bad(set));
        }
        new Refusals(due, house -> {
            Houses.busy(house);
            house.bad(0);
        }).no("bad(0) again", house -> house.bad(0));
    }

    private void badIsASetOf32Bits() {
        int[] texts = new int[32];
        for (int n = 0; n < 32; n++) {
            texts[n] = Due.text(n);
        }
        for (int n = 0; n < 32; n++) {
            FindingHouse house = Houses.told(1, texts);
            due.holds("bad of " + n, house.bad(1 << n));
            due.same("BAD", house.look(8), 1 << n);
            due.same("FINDINGS", house.look(2), 1);
            due.isFinding(house, 0, 3, 1, n, n, 2);
            due.holds("bad of all but " + n, house.bad(~(1 << n)));
            due.same("FINDINGS", house.look(2), 31);
            due.same("it has ENDED", house.find(3, n), -1);
            due.isLogged(house, 0, 3, n, 2, 3);
            due.holds("bad of none", house.bad(0));
            due.same("FINDINGS", house.look(2), 0);
        }
    }

    private void otherBadNumbersAreAChange() {
        FindingHouse house = Houses.busy();
        due.holds("one more, no TEXT's", house.bad(1 << 4 | 1 << 5));
        due.same("CHANGES", house.look(0), 11);
        due.same("WORKED", house.look(5), 0);
        due.same("FINDINGS", house.look(2), 6);
        due.same("SINCE", house.finding(4, 4), 10);
        due.holds("one less", house.bad(1 << 5));
        due.same("WORKED", house.look(5), 1 << 3);
        due.same("FINDINGS", house.look(2), 5);
        due.same("SILENCED", house.look(3), 1);
    }

    private void daysGoBy() {
        FindingHouse house = Houses.busy();
        due.same("day()", house.day(), 3);
        int[] want = Houses.BUSY.clone();
        want[1] = 3;
        for (int what = 0; what < want.length; what++) {
            due.same("look(" + what + ") after a DAY", house.look(what), want[what]);
        }
        FindingHouse fresh = new FindingHouse();
        due.same("DAY at first", fresh.look(1), 0);
        due.same("the first day()", fresh.day(), 1);
        due.same("the second day()", fresh.day(), 2);
    }

    private static void waitUntil(FindingHouse house, int day) {
        for (int today = house.look(1); today < day; today++) {
            house.day();
        }
    }

    /** No object is promised for so many calls; where one is used for them, the sentence holds all the same. */
    private void daysEndAt10000() {
        FindingHouse house = Houses.busy();
        waitUntil(house, 9999);
        due.same("DAY", house.look(1), 9999);
        due.same("the last day()", house.day(), 10000);
        due.holds("silence on the last DAY", house.silence(0, 1, 5));
        due.same("day() then", house.day(), -1);
        due.same("day() once more", house.day(), -1);
        due.same("DAY", house.look(1), 10000);
        due.same("no DAY went by", house.finding(0, 6), 1);

        new Refusals(due, h -> {
            Houses.busy(h);
            waitUntil(h, 10000);
            h.silence(0, 1, 5);
        }).none("day() on DAY 10000", FindingHouse::day);
    }

    private void lookTellsWhat0To8() {
        FindingHouse house = Houses.busy();
        for (int what = 0; what <= 8; what++) {
            due.same("look(" + what + ")", house.look(what), Houses.BUSY[what]);
        }
        int[] others = {-1, 9, LEAST, MOST};
        for (int what : others) {
            busy.none("look(" + what + ")", h -> h.look(what));
        }
    }

    private void lookTellsBadNumbersOfMinus1() {
        FindingHouse house = new FindingHouse();
        due.holds("bad of all", house.bad(-1));
        due.same("BAD numbers may be NONE", house.look(8), -1);
        due.same("CHANGES", house.look(0), 1);
    }

    /** Each call that puts, cuts, changes, or tells a FILE anew, or other BAD numbers; no other one. */
    private void changesAreNumberedFrom1() {
        FindingHouse house = new FindingHouse();
        due.same("CHANGES at first", house.look(0), 0);
        house.put(0, 0, Due.OPEN);
        due.same("a put", house.look(0), 1);
        due.same("the first FINDING's SINCE", house.finding(0, 4), 1);
        house.change(0, 0, Due.CLOSE);
        due.same("a change", house.look(0), 2);
        house.load(1);
        due.same("a load", house.look(0), 3);
        house.bad(1);
        due.same("other BAD numbers", house.look(0), 4);
        house.silence(0, 1, 1);
        house.speak(0);
        house.day();
        house.feed(0, 0, 0, 0, 0);
        house.end(1);
        due.same("no CHANGES", house.look(0), 4);
        house.cut(0, 0);
        due.same("a cut", house.look(0), 5);
        due.isLogged(house, 0, 2, 0, 1, 5);
    }
}

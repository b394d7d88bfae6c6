/** The edges of promises 14 and 15 (silence, speak), each sentence that names one by itself. */
public final class SilenceEdgesTest {
    private static final int LEAST = Integer.MIN_VALUE;
    private static final int MOST = Integer.MAX_VALUE;

    private final Due due = new Due();
    private final Refusals busy = new Refusals(due, Houses::busy);

    public static void main(String[] args) {
        SilenceEdgesTest test = new SilenceEdgesTest();
        test.silenceTakesTheFirstToTheLast();
        test.silenceTakes1To99Days();
        test.silenceTakesReasons0To99();
        test.silencesAnew();
        test.silenceIsNoChange();
        test.silenceEndsAsItsDaysHaveGoneBy();
        test.silenceStaysThroughOtherChanges();
        test.silenceEndsWithItsFinding();
        test.speakTakesSilencedOnes();
        test.speakTakesOneThatIsSilencedStill();
        test.due.close();
    }

    private void isSilenced(int i, int days, int reason) {
        String call = "silence(" + i + ", " + days + ", " + reason + ")";
        FindingHouse house = Houses.busy();
        due.holds(call, house.silence(i, days, reason));
        due.same(call + ", SILENCED", house.finding(i, 5), 1);
        due.same(call + ", DAYS still", house.finding(i, 6), days);
        due.same(call + ", REASON", house.finding(i, 7), reason);
        due.same(call + ", all SILENCED", house.look(3), i == 1 ? 1 : 2);
    }

    private void isNotSilenced(int i, int days, int reason) {
        busy.no("silence(" + i + ", " + days + ", " + reason + ")", house -> house.silence(i, days, reason));
    }

    private void silenceTakesTheFirstToTheLast() {
        isSilenced(0, 2, 3);
        isSilenced(5, 2, 3);
        isNotSilenced(-1, 2, 3);
        isNotSilenced(6, 2, 3);
        isNotSilenced(LEAST, 2, 3);
        isNotSilenced(MOST, 2, 3);
        new Refusals(due, house -> { }).no("silence(0, 1, 0) of none", house -> house.silence(0, 1, 0));
    }

    private void silenceTakes1To99Days() {
        isSilenced(2, 1, 3);
        isSilenced(2, 99, 3);
        int[] wrong = {0, 100, -1, LEAST, MOST};
        for (int days : wrong) {
            isNotSilenced(2, days, 3);
            // One that is SILENCED stays so, with what it has.
            isNotSilenced(1, days, 3);
        }
    }

    private void silenceTakesReasons0To99() {
        isSilenced(2, 2, 0);
        isSilenced(2, 2, 99);
        int[] wrong = {-1, 100, LEAST, MOST};
        for (int reason : wrong) {
            isNotSilenced(2, 2, reason);
            isNotSilenced(1, 2, reason);
        }
    }

    private void silencesAnew() {
        isSilenced(1, 1, 0);
        isSilenced(1, 99, 99);
        isSilenced(1, 8, 7);
        FindingHouse house = Houses.busy();
        house.silence(1, 1, 5);
        house.day();
        due.same("for fewer DAYS than it had", house.finding(1, 5), 0);
        due.same("SILENCED", house.look(3), 0);
    }

    private void silenceIsNoChange() {
        FindingHouse house = Houses.busy();
        house.silence(0, 1, 1);
        house.speak(1);
        for (int what = 0; what < Houses.BUSY.length; what++) {
            due.same("look(" + what + ")", house.look(what), Houses.BUSY[what]);
        }
        due.same("SINCE", house.finding(0, 4), 1);
        due.same("FINDINGS after CHANGE 0", house.since(0, 0), 6);
    }

    private void silenceEndsAsItsDaysHaveGoneBy() {
        int[] lasting = {1, 2, 99};
        for (int days : lasting) {
            FindingHouse house = Houses.busy();
            house.speak(1);
            house.silence(0, days, 4);
            for (int gone = 0; gone < days; gone++) {
                String when = days + " DAYS, " + gone + " gone by";
                due.same(when + ", SILENCED", house.finding(0, 5), 1);
                due.same(when + ", DAYS still", house.finding(0, 6), days - gone);
                house.day();
            }
            due.same(days + " DAYS gone by, SILENCED", house.finding(0, 5), 0);
            due.same(days + " DAYS gone by, DAYS still", house.finding(0, 6), 0);
            due.same(days + " DAYS gone by, REASON", house.finding(0, 7), -1);
            due.same(days + " DAYS gone by, all SILENCED", house.look(3), 0);
            due.same(days + " DAYS gone by, not SILENCED", house.since(0, 1), 6);
            due.refused(days + " DAYS gone by, speak", house.speak(0));
            due.isFinding(house, 0, 0, 0, 0, 0, 1);
            due.same("no LOG of it", house.look(4), 1);
            house.day();
            due.same("one DAY later", house.finding(0, 6), 0);
        }
    }

    /** Its FILE is WORKED again, but the FINDING is the same. */
    private void silenceStaysThroughOtherChanges() {
        FindingHouse house = Houses.busy();
        house.put(0, 0, 255);
        due.same("WORKED", house.look(5), 1);
        house.put(1, 0, Due.def(30));
        due.same("WORKED", house.look(5), 0b000011);
        due.isFinding(house, 1, 4, 0, 2, 1, 2);
        due.same("SILENCED", house.finding(1, 5), 1);
        due.same("DAYS still", house.finding(1, 6), 8);
        due.same("REASON", house.finding(1, 7), 7);
        due.same("all SILENCED", house.look(3), 1);
    }

    private void silenceEndsWithItsFinding() {
        FindingHouse house = Houses.busy();
        house.change(0, 0, Due.use(2));
        due.same("it has ENDED", house.find(4, 1), -1);
        due.same("SILENCED", house.look(3), 0);
        house.change(0, 0, Due.use(1));
        due.same("it is there again", house.find(4, 1), 1);
        due.same("its SINCE", house.finding(1, 4), 12);
        due.same("not SILENCED", house.finding(1, 5), 0);
        due.same("DAYS still", house.finding(1, 6), 0);
        due.same("REASON", house.finding(1, 7), -1);
        due.refused("speak", house.speak(1));
    }

    private void isNotSpoken(int i) {
        busy.no("speak(" + i + ")", house -> house.speak(i));
    }

    private void speakTakesSilencedOnes() {
        FindingHouse house = Houses.busy();
        due.holds("speak(1)", house.speak(1));
        due.same("SILENCED", house.finding(1, 5), 0);
        due.same("DAYS still", house.finding(1, 6), 0);
        due.same("REASON", house.finding(1, 7), -1);
        due.same("all SILENCED", house.look(3), 0);
        // Never SILENCED; SILENCED until today; none such.
        int[] wrong = {0, 2, 3, 4, 5, -1, 6, LEAST, MOST};
        for (int i : wrong) {
            isNotSpoken(i);
        }
        new Refusals(due, h -> {
            Houses.busy(h);
            h.speak(1);
        }).no("speak(1) again", h -> h.speak(1));
        new Refusals(due, h -> { }).no("speak(0) of none", h -> h.speak(0));

        FindingHouse first = Houses.busy();
        first.silence(0, 1, 1);
        first.silence(5, 1, 1);
        due.holds("speak of the first", first.speak(0));
        due.holds("speak of the last", first.speak(5));
        due.same("the one between", first.look(3), 1);
    }

    private void speakTakesOneThatIsSilencedStill() {
        FindingHouse house = Houses.busy();
        for (int gone = 0; gone < 7; gone++) {
            house.day();
        }
        due.same("its last DAY", house.finding(1, 6), 1);
        due.holds("speak on its last DAY", house.speak(1));

        FindingHouse fresh = Houses.told(0, Due.OPEN);
        fresh.silence(0, 1, 1);
        due.holds("speak on DAY 0", fresh.speak(0));
        due.same("SILENCED", fresh.look(3), 0);
        due.refused("speak again on DAY 0", fresh.speak(0));

        FindingHouse late = Houses.busy();
        for (int gone = 0; gone < 8; gone++) {
            late.day();
        }
        due.refused("speak one DAY later", late.speak(1));
    }
}

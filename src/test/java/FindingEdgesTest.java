/** The edges of promises 12, 13 and 16 (finding, find, since), each sentence that names one by itself. */
public final class FindingEdgesTest {
    private static final int LEAST = Integer.MIN_VALUE;
    private static final int MOST = Integer.MAX_VALUE;

    private final Due due = new Due();
    private final Refusals busy = new Refusals(due, Houses::busy);

    public static void main(String[] args) {
        FindingEdgesTest test = new FindingEdgesTest();
        test.findingTellsTheFirstToTheLast();
        test.findingTellsWhat0To7();
        test.findingOfNone();
        test.findingOf192();
        test.findTakesRules0To4();
        test.findTakesIdsThatAre();
        test.sinceCountsAfterC();
        test.sinceTakesAnyC();
        test.sinceTellsWhat0And1();
        test.due.close();
    }

    private void isNoFinding(int i, int what) {
        busy.none("finding(" + i + ", " + what + ")", house -> house.finding(i, what));
    }

    private void findingTellsTheFirstToTheLast() {
        FindingHouse house = Houses.busy();
        due.isFinding(house, 0, 0, 0, 0, 0, 1);
        due.isFinding(house, 5, 0, 5, 0, 6, 7);
        for (int what = 0; what <= 7; what++) {
            isNoFinding(-1, what);
            isNoFinding(6, what);
        }
        isNoFinding(LEAST, 0);
        isNoFinding(MOST, 0);
    }

    private void findingTellsWhat0To7() {
        FindingHouse house = Houses.busy();
        int[] silenced = {4, 0, 1, 1, 2, 1, 8, 7};
        int[] heard = {2, 0, 2, 2, 3, 0, 0, -1};
        for (int what = 0; what <= 7; what++) {
            due.same("finding(1, " + what + ")", house.finding(1, what), silenced[what]);
            due.same("finding(2, " + what + ")", house.finding(2, what), heard[what]);
        }
        int[] others = {-1, 8, LEAST, MOST};
        for (int what : others) {
            isNoFinding(0, what);
            isNoFinding(1, what);
        }
    }

    private void findingOfNone() {
        FindingHouse house = new FindingHouse();
        for (int what = 0; what <= 7; what++) {
            due.same("finding(0, " + what + ") of none", house.finding(0, what), -1);
        }
        house.put(0, 0, Due.OPEN);
        house.cut(0, 0);
        due.same("finding(0, 0) of none more", house.finding(0, 0), -1);
        due.same("find(2, 0) of none more", house.find(2, 0), -1);
    }

    /** All LINES of all FILES. */
    private void findingOf192() {
        FindingHouse house = new FindingHouse();
        for (int file = 5; file >= 0; file--) {
            Due.tell(house, file, Due.times(32, Due.OPEN));
        }
        due.same("FINDINGS", house.look(2), 192);
        due.isFinding(house, 0, 2, 0, 0, 160, 6);
        due.isFinding(house, 31, 2, 0, 31, 191, 6);
        due.isFinding(house, 32, 2, 1, 0, 128, 5);
        due.isFinding(house, 191, 2, 5, 31, 31, 1);
        due.same("finding(192, 0)", house.finding(192, 0), -1);
        due.refused("silence(192, 1, 1)", house.silence(192, 1, 1));
        due.holds("silence(191, 1, 1)", house.silence(191, 1, 1));
        due.same("since(0, 0)", house.since(0, 0), 192);
        due.same("since(0, 1)", house.since(0, 1), 191);
    }

    private void isNotFound(int rule, int id) {
        busy.none("find(" + rule + ", " + id + ")", house -> house.find(rule, id));
    }

    private void findTakesRules0To4() {
        FindingHouse house = Houses.busy();
        int[][] there = {{0, 0, 0}, {4, 1, 1}, {2, 2, 2}, {1, 4, 3}, {3, 7, 4}, {0, 6, 5}};
        for (int[] f : there) {
            due.same("find(" + f[0] + ", " + f[1] + ")", house.find(f[0], f[1]), f[2]);
            for (int rule = -1; rule <= 5; rule++) {
                if (rule != f[0]) {
                    isNotFound(rule, f[1]);
                }
            }
        }
        isNotFound(LEAST, 0);
        isNotFound(MOST, 0);
    }

    private void findTakesIdsThatAre() {
        // A LINE without a FINDING, one that was cut, and none such on both sides.
        int[] ids = {3, 5, -1, 8, LEAST, MOST};
        for (int id : ids) {
            isNotFound(0, id);
            isNotFound(2, id);
        }
        isNotFound(-1, -1);
    }

    /** SINCE c itself does not count. */
    private void sinceCountsAfterC() {
        FindingHouse house = Houses.busy();
        int[] after = {6, 5, 4, 3, 3, 2, 2, 1, 1, 1, 0};
        int[] heard = {5, 4, 4, 3, 3, 2, 2, 1, 1, 1, 0};
        for (int c = 0; c < after.length; c++) {
            due.same("since(" + c + ", 0)", house.since(c, 0), after[c]);
            due.same("since(" + c + ", 1)", house.since(c, 1), heard[c]);
        }
    }

    private void sinceTakesAnyC() {
        FindingHouse house = Houses.busy();
        int[] all = {-1, LEAST};
        for (int c : all) {
            due.same("since(" + c + ", 0)", house.since(c, 0), 6);
            due.same("since(" + c + ", 1)", house.since(c, 1), 5);
        }
        int[] none = {10, 11, MOST};
        for (int c : none) {
            due.same("since(" + c + ", 0)", house.since(c, 0), 0);
            due.same("since(" + c + ", 1)", house.since(c, 1), 0);
        }
    }

    private void sinceTellsWhat0And1() {
        int[] others = {-1, 2, LEAST, MOST};
        for (int what : others) {
            busy.none("since(0, " + what + ")", house -> house.since(0, what));
            busy.none("since(99, " + what + ")", house -> house.since(99, what));
        }
    }
}

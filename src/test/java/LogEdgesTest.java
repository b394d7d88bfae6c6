/** The edges of promise 17 (log) and of the LOG's last 60, each sentence that names one by itself. */
public final class LogEdgesTest {
    private static final int LEAST = Integer.MIN_VALUE;
    private static final int MOST = Integer.MAX_VALUE;

    private final Due due = new Due();

    public static void main(String[] args) {
        LogEdgesTest test = new LogEdgesTest();
        test.logOfNone();
        test.logTellsWhat0To3();
        test.logTellsTheLatestToTheFirst();
        test.logHasItsLast60();
        test.logFillsUpByOneChange();
        test.logOfOneChangeOf60();
        test.logOfOneChangeInItsOrder();
        test.logOfOneFindingTwice();
        test.logKeepsWhatEndedAsItWas();
        test.due.close();
    }

    private void logOfNone() {
        FindingHouse house = new FindingHouse();
        for (int what = -1; what <= 4; what++) {
            due.same("log(0, " + what + ") of none", house.log(0, what), -1);
            due.same("log(-1, " + what + ") of none", house.log(-1, what), -1);
        }
        house.put(0, 0, Due.OPEN);
        due.same("LOG while it is there", house.look(4), 0);
        due.same("log(0, 0) while it is there", house.log(0, 0), -1);
    }

    private void logTellsWhat0To3() {
        due.isLogged(Houses.busy(), 0, 2, 5, 6, 8);
        Refusals busy = new Refusals(due, Houses::busy);
        int[] others = {-1, 4, LEAST, MOST};
        for (int what : others) {
            busy.none("log(0, " + what + ")", house -> house.log(0, what));
        }
    }

    private void logTellsTheLatestToTheFirst() {
        Refusals busy = new Refusals(due, Houses::busy);
        int[] wrong = {-1, 1, LEAST, MOST};
        for (int i : wrong) {
            for (int what = 0; what <= 3; what++) {
                int asked = what;
                busy.none("log(" + i + ", " + what + ")", house -> house.log(i, asked));
            }
        }
        Refusals full = new Refusals(due, house -> cutOpens(house, 61));
        full.none("log(60, 1) of 60", house -> house.log(60, 1));
        full.none("log(-1, 1) of 60", house -> house.log(-1, 1));
    }

    /** Each OPEN is put by a CHANGE and cut by the next one: ID k, SINCE 2k + 1, ENDED with 2k + 2. */
    private static void cutOpens(FindingHouse house, int count) {
        for (int k = 0; k < count; k++) {
            house.put(1, 0, Due.OPEN);
            house.cut(1, 0);
        }
    }

    private void logHasItsLast60() {
        int[] counts = {1, 59, 60, 61, 119, 120, 121};
        for (int count : counts) {
            FindingHouse house = new FindingHouse();
            cutOpens(house, count);
            int size = Math.min(count, 60);
            due.same("LOG of " + count, house.look(4), size);
            for (int i = 0; i < size; i++) {
                due.same("log(" + i + ", 1) of " + count, house.log(i, 1), count - 1 - i);
            }
            due.isLogged(house, 0, 2, count - 1, 2 * count - 1, 2 * count);
            int first = count - size;
            due.isLogged(house, size - 1, 2, first, 2 * first + 1, 2 * first + 2);
            due.same("log(" + size + ", 0) of " + count, house.log(size, 0), -1);
        }
    }

    /** One CHANGE that ends more than there is room for. */
    private void logFillsUpByOneChange() {
        for (int ended = 1; ended <= 5; ended++) {
            FindingHouse house = new FindingHouse();
            cutOpens(house, 57);
            Due.tell(house, 0, Due.times(ended, Due.use(3)));
            house.put(0, 0, Due.def(3));
            due.same("LOG of 57 and " + ended, house.look(4), Math.min(57 + ended, 60));
            due.isLogged(house, 0, 0, 56 + ended, 115, 116);
            due.isLogged(house, ended - 1, 0, 57, 115, 116);
            due.isLogged(house, ended, 2, 56, 113, 114);
            int first = Math.max(57 + ended - 60, 0);
            due.same("the first that is left", house.log(house.look(4) - 1, 1), first);
            due.same("behind it", house.log(house.look(4), 1), -1);
        }
    }

    private void logOfOneChangeOf60() {
        int[] counts = {59, 60, 61, 64};
        for (int count : counts) {
            FindingHouse house = new FindingHouse();
            Due.tell(house, 0, Due.times(32, Due.text(31)));
            Due.tell(house, 5, Due.times(count - 32, Due.text(31)));
            house.bad(1 << 31);
            due.same("FINDINGS", house.look(2), count);
            house.bad(MOST);
            due.same("FINDINGS", house.look(2), 0);
            int size = Math.min(count, 60);
            due.same("LOG of one CHANGE of " + count, house.look(4), size);
            for (int i = 0; i < size; i++) {
                due.same("log(" + i + ", 1) of " + count, house.log(i, 1), count - 1 - i);
            }
            due.isLogged(house, 0, 3, count - 1, 3, 4);
            due.isLogged(house, size - 1, 3, count - size, 3, 4);
            due.same("log(" + size + ", 1)", house.log(size, 1), -1);
        }
    }

    /** By FILES, not by which of them was changed, and by LINES, not by IDS. */
    private void logOfOneChangeInItsOrder() {
        FindingHouse house = new FindingHouse();
        Due.tell(house, 4, Due.use(1), Due.imports(2));
        Due.tell(house, 0, Due.use(1), Due.imports(2));
        house.put(0, 0, Due.use(1));
        Due.tell(house, 2, Due.use(1));
        due.same("FINDINGS", house.look(2), 6);
        house.put(2, 0, Due.def(1));
        due.same("FINDINGS", house.look(2), 0);
        int[][] ended = {{4, 1, 1}, {0, 0, 1}, {0, 5, 4}, {4, 3, 2}, {0, 2, 2}, {0, 4, 3}};
        for (int i = 0; i < ended.length; i++) {
            due.isLogged(house, i, ended[i][0], ended[i][1], ended[i][2], 5);
        }
    }

    private void logOfOneFindingTwice() {
        FindingHouse house = new FindingHouse();
        house.put(3, 0, Due.text(0));
        house.bad(1);
        house.bad(0);
        house.bad(-1);
        house.bad(-2);
        due.same("LOG", house.look(4), 2);
        due.isLogged(house, 0, 3, 0, 4, 5);
        due.isLogged(house, 1, 3, 0, 2, 3);
    }

    /** A LINE that ENDS one RULE's FINDING by becoming another's. */
    private void logKeepsWhatEndedAsItWas() {
        FindingHouse house = Houses.busy();
        house.change(5, 0, Due.CLOSE);
        due.same("LOG", house.look(4), 2);
        due.isLogged(house, 0, 0, 6, 7, 11);
        due.isLogged(house, 1, 2, 5, 6, 8);
        due.isFinding(house, 5, 2, 5, 0, 6, 11);
        house.change(5, 0, Due.CLOSE + 1);
        due.same("LOG", house.look(4), 2);
    }
}

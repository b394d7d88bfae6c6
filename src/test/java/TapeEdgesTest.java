/** The edges of promises 5, 6 and 7 (feed, end, load), each sentence that names one by itself. */
public final class TapeEdgesTest {
    private static final int LEAST = Integer.MIN_VALUE;
    private static final int MOST = Integer.MAX_VALUE;

    private final Due due = new Due();

    public static void main(String[] args) {
        TapeEdgesTest test = new TapeEdgesTest();
        test.feedTakesTheHighestByteFirst();
        test.feedTakesUpTo40();
        test.feedAndEndAreNoChanges();
        test.endTakesFrom0ToWhatItHas();
        test.endLeavesTheFirstAlone();
        test.loadTakesFiles0To5();
        test.loadTakesUpTo32();
        test.loadOfAnEmptyTape();
        test.loadOfAnEmptyFile();
        test.loadOfTheSame();
        test.loadEmptiesTheTape();
        test.due.close();
    }

    /** The busy house with n bytes on its TAPE. */
    private Refusals withTape(int n) {
        return new Refusals(due, house -> fillAnew(house, n));
    }

    private static void fillAnew(FindingHouse house, int n) {
        Houses.busy(house);
        house.end(0);
        Due.fill(house, Due.times(n, Due.use(9)));
    }

    private static FindingHouse houseWithTape(int n) {
        FindingHouse house = new FindingHouse();
        fillAnew(house, n);
        return house;
    }

    private void feedTakesTheHighestByteFirst() {
        int[][] numbers = {{0x01020304, 0x05060708, 0x090a0b0c, 0x0d0e0f10, 0x11121314},
            {-1, LEAST, MOST, 0xff, 0x00fe0000}};
        int[][] bytes = {{1, 2, 3, 4, 5, 6, 7, 8, 9, 10, 11, 12, 13, 14, 15, 16, 17, 18, 19, 20},
            {255, 255, 255, 255, 128, 0, 0, 0, 127, 255, 255, 255, 0, 0, 0, 255, 0, 254, 0, 0}};
        for (int k = 0; k < numbers.length; k++) {
            int[] n = numbers[k];
            FindingHouse house = new FindingHouse();
            due.same("feed", house.feed(n[0], n[1], n[2], n[3], n[4]), 20);
            due.same("load", house.load(k), 0);
            for (int at = 0; at < 20; at++) {
                due.same("byte " + at, house.line(k, at, 0), bytes[k][at]);
            }
        }
    }

    private void feedTakesUpTo40() {
        due.same("feed behind none", houseWithTape(0).feed(0, 0, 0, 0, 0), 20);
        due.same("feed behind 1", houseWithTape(1).feed(0, 0, 0, 0, 0), 21);
        due.same("feed behind 20, to 40", houseWithTape(20).feed(0, 0, 0, 0, 0), 40);
        withTape(21).none("feed behind 21", house -> house.feed(1, 1, 1, 1, 1));
        withTape(39).none("feed behind 39", house -> house.feed(1, 1, 1, 1, 1));
        withTape(40).none("feed behind 40", house -> house.feed(1, 1, 1, 1, 1));
        withTape(32).none("feed behind 32", house -> house.feed(-1, -1, -1, -1, -1));
    }

    private void feedAndEndAreNoChanges() {
        withTape(20).leavesAll("feed", house -> house.feed(1, 2, 3, 4, 5), 40);
        withTape(20).leavesAll("end(7)", house -> house.end(7) ? 1 : 0, 1);
    }

    private void endTakesFrom0ToWhatItHas() {
        int[] sizes = {0, 1, 20, 32, 33, 40};
        for (int size : sizes) {
            FindingHouse house = houseWithTape(size);
            due.holds("end(" + size + ") of " + size, house.end(size));
            due.same("the TAPE after it", Refusals.tapeSize(house), size);
            due.holds("end(0) of " + size, house.end(0));
            due.same("the TAPE after it", Refusals.tapeSize(house), 0);
            int[] wrong = {size + 1, -1, LEAST, MOST};
            for (int n : wrong) {
                withTape(size).no("end(" + n + ") of " + size, h -> h.end(n));
            }
        }
    }

    private void endLeavesTheFirstAlone() {
        FindingHouse house = new FindingHouse();
        Due.fill(house, 11, 12, 13, 14);
        due.holds("end(2)", house.end(2));
        due.refused("end(3)", house.end(3));
        house.feed(0x15000000, 0, 0, 0, 0);
        due.holds("end(3)", house.end(3));
        due.same("load", house.load(0), 0);
        int[] bytes = {11, 12, 21, -1};
        for (int at = 0; at < bytes.length; at++) {
            due.same("byte " + at, house.line(0, at, 0), bytes[at]);
        }
    }

    /** "NONE, and nothing ELSE is done": the TAPE is empty then, as an end(0) makes it. */
    private void isNotLoaded(String call, int file, int tape) {
        withTape(tape).leavesAll(call, house -> house.load(file), -1);
        withTape(tape).goOnAlike(call, house -> house.load(file), house -> house.end(0) ? -1 : 0);
        FindingHouse house = houseWithTape(tape);
        house.load(file);
        due.same("the TAPE after " + call, Refusals.tapeSize(house), 0);
    }

    private void loadTakesFiles0To5() {
        int[] files = {0, 5};
        for (int file : files) {
            FindingHouse house = houseWithTape(3);
            due.same("load(" + file + ")", house.load(file), 0);
            due.hasIds(house, file, 8, 9, 10);
            due.same("CHANGES", house.look(0), 11);
            due.same("WORKED", house.look(5), 1 << file);
        }
        int[] wrong = {-1, 6, LEAST, MOST};
        for (int file : wrong) {
            isNotLoaded("load(" + file + ")", file, 3);
            isNotLoaded("load(" + file + ") of no TAPE", file, 0);
            isNotLoaded("load(" + file + ") of 33", file, 33);
        }
    }

    private void loadTakesUpTo32() {
        int[] sizes = {31, 32};
        for (int size : sizes) {
            FindingHouse house = houseWithTape(size);
            due.same("load of " + size, house.load(2), 0);
            due.same("its last LINE", house.line(2, size - 1, 0), Due.use(9));
            due.same("behind it", house.line(2, size, 0), -1);
            due.same("LINES", house.look(6), 7 + size);
            due.same("IDS given", house.look(7), 8 + size);
            due.same("FINDINGS", house.look(2), 6 + size);
        }
        int[] tooMany = {33, 34, 40};
        for (int size : tooMany) {
            isNotLoaded("load of " + size, 0, size);
            isNotLoaded("load of " + size + " where none is", 2, size);
        }
    }

    private void loadOfAnEmptyTape() {
        FindingHouse house = houseWithTape(0);
        due.same("load of no TAPE", house.load(0), 0);
        due.same("its first LINE", house.line(0, 0, 0), -1);
        due.same("LINES", house.look(6), 4);
        due.same("CHANGES", house.look(0), 11);
        due.same("WORKED", house.look(5), 1);
        due.same("FINDINGS", house.look(2), 3);
        due.same("SILENCED", house.look(3), 0);
        due.same("LOG", house.look(4), 4);
        due.isLogged(house, 0, 2, 2, 3, 11);
        due.isLogged(house, 1, 4, 1, 2, 11);
        due.isLogged(house, 2, 0, 0, 1, 11);
        due.same("IDS given", house.look(7), 8);
        due.same("a put after it", house.put(0, 0, 1), 8);

        FindingHouse full = Houses.told(3, Due.times(32, 1));
        due.same("no TAPE for 32 LINES", full.load(3), 0);
        due.same("LINES", full.look(6), 0);
    }

    private void loadOfAnEmptyFile() {
        FindingHouse house = new FindingHouse();
        due.same("no TAPE for no LINES", house.load(4), 0);
        due.same("it is a CHANGE", house.look(0), 1);
        due.same("WORKED", house.look(5), 1 << 4);
        due.same("one byte for no LINES", Due.tell(house, 4, Due.OPEN), 0);
        due.hasIds(house, 4, 0);
        due.isFinding(house, 0, 2, 4, 0, 0, 2);
        due.same("no TAPE for one LINE", house.load(4), 0);
        due.same("the same byte again", Due.tell(house, 4, Due.OPEN), 0);
        due.hasIds(house, 4, 1);
        due.isFinding(house, 0, 2, 4, 0, 1, 4);
        due.isLogged(house, 0, 2, 0, 2, 3);
    }

    private void loadOfTheSame() {
        FindingHouse house = Houses.busy();
        house.end(0);
        due.same("the same", Due.tell(house, 0, Due.use(1), Due.imports(1), Due.OPEN), 3);
        due.same("it is a CHANGE", house.look(0), 11);
        due.same("WORKED", house.look(5), 1);
        due.same("IDS given", house.look(7), 8);
        due.same("LOG", house.look(4), 1);
        due.isFinding(house, 1, 4, 0, 1, 1, 2);
        due.same("still SILENCED", house.finding(1, 6), 8);

        int[] full = new int[32];
        for (int k = 0; k < 32; k++) {
            full[k] = k;
        }
        FindingHouse other = Houses.told(5, full);
        due.same("the same 32", Due.tell(other, 5, full), 32);
        due.same("none of 32", Due.tell(other, 5, Due.times(32, 77)), 0);
        // Of 32 alike the LINES that were go as long as a longest row is left: the last one stays.
        due.same("one of 32 alike", Due.tell(other, 5, 1, 2, 77), 1);
        due.hasIds(other, 5, 64, 65, 63);
    }

    private void loadEmptiesTheTape() {
        FindingHouse house = houseWithTape(32);
        house.load(1);
        due.same("the TAPE after a load", Refusals.tapeSize(house), 0);
        due.same("the next load", house.load(1), 0);
        due.same("LINES", house.look(6), 5);
    }
}

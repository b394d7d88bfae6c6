/** The edges of promises 2, 3, 4 and 11 (put, cut, change, line), each sentence that names one by itself. */
public final class LineEdgesTest {
    private static final int LEAST = Integer.MIN_VALUE;
    private static final int MOST = Integer.MAX_VALUE;

    private final Due due = new Due();
    private final Refusals busy = new Refusals(due, Houses::busy);

    public static void main(String[] args) {
        LineEdgesTest test = new LineEdgesTest();
        test.theBusyHouseIsAsTold();
        test.putTakesFiles0To5();
        test.putTakesPlacesFromTheFirstToBehindTheLast();
        test.putTakesBytes0To255();
        test.putTakes32LinesAFile();
        test.idsComeAsLinesDo();
        test.cutTakesFiles0To5();
        test.cutTakesFirstToLast();
        test.changeTakesFiles0To5();
        test.changeTakesFirstToLast();
        test.changeTakesBytes0To255();
        test.changeRefusesWhatItIs();
        test.changedLineKeepsItsId();
        test.lineTellsFiles0To5();
        test.lineTellsFirstToLast();
        test.lineTellsWhat0And1();
        test.due.close();
    }

    private void theBusyHouseIsAsTold() {
        FindingHouse house = Houses.busy();
        for (int what = 0; what < Houses.BUSY.length; what++) {
            due.same("busy look(" + what + ")", house.look(what), Houses.BUSY[what]);
        }
        int[][] findings = {{0, 0, 0, 0, 1}, {4, 0, 1, 1, 2}, {2, 0, 2, 2, 3}, {1, 1, 1, 4, 5}, {3, 3, 0, 7, 10},
            {0, 5, 0, 6, 7}};
        for (int i = 0; i < findings.length; i++) {
            int[] f = findings[i];
            due.isFinding(house, i, f[0], f[1], f[2], f[3], f[4]);
        }
        due.same("busy, DAYS still", house.finding(1, 6), 8);
        due.isLogged(house, 0, 2, 5, 6, 8);
        due.same("busy, the TAPE", Refusals.tapeSize(house), 5);
    }

    /** A put that is done: the LINE is there with the next ID, the ones behind it moved, and it is one CHANGE. */
    private void isPut(int file, int at, int line) {
        String call = "put(" + file + ", " + at + ", " + line + ")";
        FindingHouse house = Houses.busy();
        int moved = house.line(file, at, 1);
        due.same(call, house.put(file, at, line), 8);
        due.same(call + ", its byte", house.line(file, at, 0), line);
        due.same(call + ", its ID", house.line(file, at, 1), 8);
        due.same(call + ", the one behind", house.line(file, at + 1, 1), moved);
        due.same(call + ", CHANGES", house.look(0), 11);
        due.same(call + ", LINES", house.look(6), 8);
        due.same(call + ", IDS given", house.look(7), 9);
    }

    private void isNotPut(int file, int at, int line) {
        busy.none("put(" + file + ", " + at + ", " + line + ")", house -> house.put(file, at, line));
    }

    private void putTakesFiles0To5() {
        isPut(0, 0, 1);
        isPut(5, 0, 1);
        isNotPut(-1, 0, 1);
        isNotPut(6, 0, 1);
        isNotPut(LEAST, 0, 1);
        isNotPut(MOST, 0, 1);
    }

    private void putTakesPlacesFromTheFirstToBehindTheLast() {
        isPut(0, 0, 1);
        isPut(0, 2, 1);
        isPut(0, 3, 1);
        isNotPut(0, -1, 1);
        isNotPut(0, 4, 1);
        isPut(2, 0, 1);
        isNotPut(2, -1, 1);
        isNotPut(2, 1, 1);
        isNotPut(0, LEAST, 1);
        isNotPut(0, MOST, 1);
        isNotPut(0, 32, 1);
    }

    private void putTakesBytes0To255() {
        isPut(1, 1, 0);
        isPut(1, 1, 255);
        isNotPut(1, 1, -1);
        isNotPut(1, 1, 256);
        isNotPut(1, 1, LEAST);
        isNotPut(1, 1, MOST);
        isNotPut(2, 0, 256 + Due.OPEN);
    }

    private void putTakes32LinesAFile() {
        FindingHouse house = Houses.told(2, Due.times(31, Due.OPEN));
        due.same("the 32nd LINE", house.put(2, 31, Due.OPEN), 31);
        due.same("LINES", house.look(6), 32);
        due.same("FINDINGS", house.look(2), 32);
        due.same("in another FILE", house.put(3, 0, Due.OPEN), 32);

        Refusals full = new Refusals(due, h -> {
            Houses.busy(h);
            h.load(2);
            Due.tell(h, 4, Due.times(32, Due.def(3)));
        });
        int[] places = {0, 31, 32, 33, -1};
        for (int at : places) {
            full.none("33rd put at " + at, h -> h.put(4, at, Due.def(9)));
        }
        FindingHouse cut = Houses.told(2, Due.times(32, Due.OPEN));
        cut.cut(2, 0);
        due.same("a 32nd LINE after a cut", cut.put(2, 0, 1), 32);
        due.same("and no 33rd", cut.put(2, 0, 1), -1);
    }

    private void idsComeAsLinesDo() {
        FindingHouse house = new FindingHouse();
        due.same("IDS at first", house.look(7), 0);
        due.same("the first ID", house.put(4, 0, 9), 0);
        due.same("a refused put", house.put(4, 2, 9), -1);
        due.same("the next ID", house.put(4, 0, 9), 1);
        due.holds("cut", house.cut(4, 0));
        due.same("no ID is given again", house.put(4, 0, 9), 2);
        due.same("IDS given", house.look(7), 3);
    }

    private void isCut(int file, int at) {
        String call = "cut(" + file + ", " + at + ")";
        FindingHouse house = Houses.busy();
        int behind = house.line(file, at + 1, 1);
        due.holds(call, house.cut(file, at));
        due.same(call + ", the one behind", house.line(file, at, 1), behind);
        due.same(call + ", CHANGES", house.look(0), 11);
        due.same(call + ", LINES", house.look(6), 6);
        due.same(call + ", IDS given", house.look(7), 8);
    }

    private void isNotCut(int file, int at) {
        busy.no("cut(" + file + ", " + at + ")", house -> house.cut(file, at));
    }

    private void cutTakesFiles0To5() {
        isCut(0, 0);
        isCut(5, 0);
        isNotCut(-1, 0);
        isNotCut(6, 0);
        isNotCut(LEAST, 0);
        isNotCut(MOST, 0);
    }

    private void cutTakesFirstToLast() {
        isCut(0, 0);
        isCut(0, 2);
        isNotCut(0, -1);
        isNotCut(0, 3);
        isNotCut(0, LEAST);
        isNotCut(0, MOST);
        isNotCut(2, 0);
        isNotCut(2, -1);

        FindingHouse full = Houses.told(1, Due.times(32, 1));
        due.refused("cut(1, 32) of 32", full.cut(1, 32));
        due.holds("cut(1, 31) of 32", full.cut(1, 31));
        due.refused("cut(1, 31) of 31", full.cut(1, 31));
        due.same("LINES", full.look(6), 31);
    }

    private void isChanged(int file, int at, int line) {
        String call = "change(" + file + ", " + at + ", " + line + ")";
        FindingHouse house = Houses.busy();
        int id = house.line(file, at, 1);
        due.holds(call, house.change(file, at, line));
        due.same(call + ", its byte", house.line(file, at, 0), line);
        due.same(call + ", its ID", house.line(file, at, 1), id);
        due.same(call + ", CHANGES", house.look(0), 11);
        due.same(call + ", LINES", house.look(6), 7);
        due.same(call + ", IDS given", house.look(7), 8);
    }

    private void isNotChanged(int file, int at, int line) {
        busy.no("change(" + file + ", " + at + ", " + line + ")", house -> house.change(file, at, line));
    }

    private void changeTakesFiles0To5() {
        isChanged(0, 0, 1);
        isChanged(5, 0, 1);
        isNotChanged(-1, 0, 1);
        isNotChanged(6, 0, 1);
        isNotChanged(LEAST, 0, 1);
        isNotChanged(MOST, 0, 1);
    }

    private void changeTakesFirstToLast() {
        isChanged(0, 0, 1);
        isChanged(0, 2, 1);
        isNotChanged(0, -1, 1);
        isNotChanged(0, 3, 1);
        isNotChanged(0, LEAST, 1);
        isNotChanged(0, MOST, 1);
        isNotChanged(2, 0, 1);
        // An empty place holds no TEXT 0 either.
        isNotChanged(2, 0, 0);

        FindingHouse full = Houses.told(1, Due.times(32, 1));
        due.holds("change(1, 31, 2) of 32", full.change(1, 31, 2));
        due.refused("change(1, 32, 2) of 32", full.change(1, 32, 2));
    }

    private void changeTakesBytes0To255() {
        isChanged(0, 1, 0);
        isChanged(0, 1, 255);
        isNotChanged(0, 1, -1);
        isNotChanged(0, 1, 256);
        isNotChanged(0, 1, LEAST);
        isNotChanged(0, 1, MOST);
    }

    private void changeRefusesWhatItIs() {
        isNotChanged(0, 0, Due.use(1));
        isNotChanged(0, 2, Due.OPEN);
        isNotChanged(5, 0, Due.use(31));
        isChanged(0, 0, Due.use(1) + 1);
        isChanged(0, 0, Due.use(1) - 1);
        // Alike in what it is, but another byte: it is a CHANGE.
        isChanged(0, 2, Due.OPEN + 31);
        isChanged(0, 1, Due.imports(1 + 6));
        // The byte that it is, and 256 more.
        isNotChanged(0, 0, 256 + Due.use(1));
    }

    private void changedLineKeepsItsId() {
        FindingHouse house = Houses.busy();
        house.change(0, 2, Due.CLOSE);
        due.hasIds(house, 0, 0, 1, 2);
        due.isFinding(house, 2, 2, 0, 2, 2, 3);
        house.change(0, 2, Due.def(1));
        due.hasIds(house, 0, 0, 1, 2);
        due.same("its FINDING has ENDED", house.find(2, 2), -1);
        due.isLogged(house, 0, 2, 2, 3, 12);
    }

    private void isNoLine(int file, int at, int what) {
        busy.none("line(" + file + ", " + at + ", " + what + ")", house -> house.line(file, at, what));
    }

    private void isLine(int file, int at, int line, int id) {
        FindingHouse house = Houses.busy();
        due.same("line(" + file + ", " + at + ", 0)", house.line(file, at, 0), line);
        due.same("line(" + file + ", " + at + ", 1)", house.line(file, at, 1), id);
    }

    private void lineTellsFiles0To5() {
        isLine(0, 0, Due.use(1), 0);
        isLine(5, 0, Due.use(31), 6);
        isNoLine(-1, 0, 0);
        isNoLine(6, 0, 0);
        isNoLine(LEAST, 0, 1);
        isNoLine(MOST, 0, 1);
    }

    private void lineTellsFirstToLast() {
        isLine(0, 0, Due.use(1), 0);
        isLine(0, 2, Due.OPEN, 2);
        isNoLine(0, -1, 0);
        isNoLine(0, 3, 0);
        isNoLine(0, 3, 1);
        isNoLine(0, LEAST, 0);
        isNoLine(0, MOST, 0);
        isNoLine(2, 0, 0);
        isNoLine(2, 0, 1);

        FindingHouse full = Houses.told(1, Due.times(32, 7));
        due.same("line(1, 31, 1) of 32", full.line(1, 31, 1), 31);
        due.same("line(1, 32, 1) of 32", full.line(1, 32, 1), -1);
        full.cut(1, 31);
        due.same("line(1, 31, 0) after its cut", full.line(1, 31, 0), -1);
    }

    private void lineTellsWhat0And1() {
        isLine(1, 1, Due.def(2), 4);
        isNoLine(1, 1, -1);
        isNoLine(1, 1, 2);
        isNoLine(1, 1, LEAST);
        isNoLine(1, 1, MOST);
    }
}

/** The edges of which FILES are WORKED again (section 3 of the terms, seen by look 5), each by itself. */
public final class WorkedEdgesTest {
    /** FILE 3 by itself, and with FILES 0 and 5, which IMPORT it in most of these houses. */
    private static final int ALONE = 1 << 3;
    private static final int ALL = 1 << 3 | 1 | 1 << 5;

    private final Due due = new Due();

    public static void main(String[] args) {
        WorkedEdgesTest test = new WorkedEdgesTest();
        test.noneAtFirst();
        test.eachFileByItself();
        test.importersByTheSetOfDefs();
        test.theSameSetWorksTheFileAlone();
        test.importersOfImportersAreNone();
        test.importersThatImportInAnyLine();
        test.importsAreAsTheyAreThen();
        test.itselfIsCountedOnce();
        test.badWorksTextsThatTurn();
        test.findingsOfOtherFilesStay();
        test.due.close();
    }

    private void noneAtFirst() {
        FindingHouse house = new FindingHouse();
        due.same("WORKED at first", house.look(5), 0);
        house.put(6, 0, 1);
        house.bad(0);
        house.day();
        due.same("WORKED by no CHANGE", house.look(5), 0);
    }

    private void eachFileByItself() {
        for (int file = 0; file < 6; file++) {
            FindingHouse house = new FindingHouse();
            house.put(file, 0, Due.def(1));
            due.same("a put in FILE " + file, house.look(5), 1 << file);
            house.put((file + 1) % 6, 0, 255);
            house.change(file, 0, Due.def(2));
            due.same("a change in FILE " + file, house.look(5), 1 << file);
            house.put((file + 1) % 6, 0, 255);
            house.load(file);
            due.same("a load of FILE " + file, house.look(5), 1 << file);
            house.cut((file + 1) % 6, 0);
            due.same("a cut in FILE " + (file + 1) % 6, house.look(5), 1 << (file + 1) % 6);
        }
    }

    /** FILES 0 and 5 IMPORT FILE 3, by the lowest and the highest n. */
    private static FindingHouse imported(int... lines) {
        FindingHouse house = new FindingHouse();
        house.put(0, 0, Due.imports(3));
        house.put(5, 0, Due.imports(27));
        Due.tell(house, 3, lines);
        return house;
    }

    private void importersByTheSetOfDefs() {
        int[] numbers = {0, 31};
        for (int n : numbers) {
            FindingHouse house = imported();
            house.put(3, 0, Due.def(n));
            due.same("the first DEF " + n, house.look(5), ALL);
            house.change(3, 0, Due.use(n));
            due.same("it is a USE", house.look(5), ALL);
            house.change(3, 0, Due.def(n));
            due.same("it is a DEF", house.look(5), ALL);
            house.change(3, 0, Due.def(n ^ 1));
            due.same("it is another DEF", house.look(5), ALL);
            house.cut(3, 0);
            due.same("the last DEF cut", house.look(5), ALL);
            Due.tell(house, 3, Due.def(n));
            due.same("told a DEF", house.look(5), ALL);
            house.load(3);
            due.same("told none", house.look(5), ALL);
        }
    }

    private void theSameSetWorksTheFileAlone() {
        FindingHouse house = imported(Due.def(0), Due.def(31), Due.def(0));
        due.same("told", house.look(5), ALL);
        house.put(3, 3, Due.def(31));
        due.same("one more of them", house.look(5), ALONE);
        house.change(3, 2, Due.def(31));
        due.same("one becomes the other, which is there", house.look(5), ALONE);
        house.change(3, 1, Due.text(0));
        due.same("one of several no more", house.look(5), ALONE);
        house.cut(3, 3);
        due.same("one of two cut", house.look(5), ALONE);
        Due.tell(house, 3, Due.def(31), Due.def(0));
        due.same("told in another order", house.look(5), ALONE);
        Due.tell(house, 3, Due.def(31), Due.def(0));
        due.same("told the same", house.look(5), ALONE);
        house.change(3, 0, Due.def(0));
        due.same("the last of a number no more", house.look(5), ALL);
        house.put(3, 0, Due.use(5));
        due.same("no DEF", house.look(5), ALONE);

        FindingHouse none = imported();
        due.same("told none where none was", none.look(5), ALONE);
    }

    private void importersOfImportersAreNone() {
        FindingHouse house = imported();
        house.put(1, 0, Due.imports(0));
        house.put(3, 0, Due.def(4));
        due.same("FILE 1 IMPORTS FILE 0 alone", house.look(5), ALL);
        house.put(0, 0, Due.def(4));
        due.same("a DEF in FILE 0", house.look(5), 1 | 1 << 1);
    }

    private void importersThatImportInAnyLine() {
        int[] places = {0, 31};
        for (int at : places) {
            int[] row = Due.times(32, 255);
            row[at] = Due.imports(4);
            FindingHouse house = Houses.told(2, row);
            house.put(4, 0, Due.def(1));
            due.same("IMPORT at " + at, house.look(5), 1 << 2 | 1 << 4);
            house.cut(2, at);
            house.put(4, 0, Due.def(2));
            due.same("it is cut", house.look(5), 1 << 4);
        }
        FindingHouse several = Houses.told(2, Due.imports(0), Due.imports(4), Due.imports(5));
        int[] files = {0, 4, 5};
        for (int file : files) {
            several.put(file, 0, Due.def(1));
            due.same("FILE " + file + " of several", several.look(5), 1 << 2 | 1 << file);
        }
    }

    private void importsAreAsTheyAreThen() {
        FindingHouse house = imported();
        house.change(0, 0, Due.imports(4));
        due.same("an IMPORT changed", house.look(5), 1);
        house.put(3, 0, Due.def(1));
        due.same("FILE 0 IMPORTS it no more", house.look(5), 1 << 3 | 1 << 5);
        house.put(4, 0, Due.def(1));
        due.same("but another one", house.look(5), 1 | 1 << 4);
    }

    private void itselfIsCountedOnce() {
        FindingHouse house = new FindingHouse();
        house.put(2, 0, Due.imports(2));
        house.put(2, 0, Due.def(1));
        due.same("WORKED", house.look(5), 1 << 2);
        due.same("CHANGES", house.look(0), 2);
        due.isFinding(house, 0, 4, 2, 1, 0, 1);
    }

    private void badWorksTextsThatTurn() {
        FindingHouse house = new FindingHouse();
        house.put(0, 0, Due.text(0));
        house.put(1, 0, Due.text(31));
        house.put(2, 0, Due.def(0));
        Due.tell(house, 5, Due.text(31), Due.text(0));
        int[] sets = {1, 1 << 31, 0, -1, -2, Integer.MAX_VALUE, Integer.MAX_VALUE - 2, 0};
        int[] worked = {0b100001, 0b100011, 0b100010, 0b100011, 0b100001, 0b100011, 0, 0b100001};
        for (int k = 0; k < sets.length; k++) {
            due.holds("bad(" + sets[k] + ")", house.bad(sets[k]));
            due.same("WORKED by bad(" + sets[k] + ")", house.look(5), worked[k]);
        }
    }

    /** Each FINDING of a FILE that is not WORKED again stays with its SINCE and its silence. */
    private void findingsOfOtherFilesStay() {
        FindingHouse house = Houses.busy();
        house.put(4, 0, Due.def(1));
        due.same("WORKED", house.look(5), 1 << 4);
        int[] sinces = {1, 2, 3, 5, 10, 7};
        for (int i = 0; i < sinces.length; i++) {
            due.same("SINCE of " + i, house.finding(i, 4), sinces[i]);
            due.same("SILENCED of " + i, house.finding(i, 5), i == 1 ? 1 : 0);
        }
        due.same("LOG", house.look(4), 1);
    }
}

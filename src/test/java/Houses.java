/** Houses that the tests of edges begin with. */
final class Houses {
    /** What look(0) to look(8) answer of the busy house. */
    static final int[] BUSY = {10, 2, 6, 1, 1, 0b001000, 7, 8, 1 << 4};

    private Houses() {
    }

    /**
     * Something of everything: FILE 0 is USE 1, IMPORT 1, OPEN (IDS 0, 1, 2), FILE 1 is DEF 2, DEF 2 (3, 4), FILE 3 is
     * TEXT 4 (7), FILE 5 is USE 31 (6), FILES 2 and 4 are empty; a FINDING of each RULE, the one at IMPORT 1 SILENCED
     * for 8 DAYS still; one in the LOG; five bytes on the TAPE; the latest CHANGE is that of the BAD numbers.
     */
    static void busy(FindingHouse house) {
        house.put(0, 0, Due.use(1));
        house.put(0, 1, Due.imports(1));
        house.put(0, 2, Due.OPEN);
        house.put(1, 0, Due.def(2));
        house.put(1, 1, Due.def(2));
        house.put(5, 0, Due.CLOSE);
        house.put(5, 1, Due.use(31));
        house.cut(5, 0);
        house.put(3, 0, Due.text(4));
        house.bad(1 << 4);
        house.day();
        house.silence(1, 9, 7);
        house.silence(5, 1, 3);
        house.day();
        Due.fill(house, 5, 6, 7, 8, 41);
    }

    static FindingHouse busy() {
        FindingHouse house = new FindingHouse();
        busy(house);
        return house;
    }

    static FindingHouse told(int file, int... bytes) {
        FindingHouse house = new FindingHouse();
        Due.tell(house, file, bytes);
        return house;
    }
}

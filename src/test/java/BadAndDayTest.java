/** Promises 8, 9 and 10: bad, day, look. */
public final class BadAndDayTest {
    public static void main(String[] args) {
        Due due = new Due();
        tellsBadNumbers(due);
        worksWhereBadDiffers(due);
        countsDays(due);
        looks(due);
        due.close();
    }

    private static void tellsBadNumbers(Due due) {
        FindingHouse house = new FindingHouse();
        due.refused("bad(0) at first", house.bad(0));
        due.same("CHANGES", house.look(0), 0);
        house.put(0, 0, Due.text(31));
        house.put(0, 1, Due.text(0));
        due.holds("bad of the highest", house.bad(0x80000000));
        due.same("BAD", house.look(8), 0x80000000);
        due.isFinding(house, 0, 3, 0, 0, 0, 3);
        due.same("FINDINGS", house.look(2), 1);
        due.refused("these again", house.bad(0x80000000));
        due.same("CHANGES", house.look(0), 3);
        due.holds("all are bad", house.bad(-1));
        due.same("BAD", house.look(8), -1);
        due.isFinding(house, 0, 3, 0, 0, 0, 3);
        due.isFinding(house, 1, 3, 0, 1, 1, 4);
        due.holds("none", house.bad(0));
        due.same("FINDINGS", house.look(2), 0);
        due.isLogged(house, 0, 3, 1, 4, 5);
        due.isLogged(house, 1, 3, 0, 3, 5);
    }

    private static void worksWhereBadDiffers(Due due) {
        FindingHouse house = new FindingHouse();
        house.put(0, 0, Due.text(1));
        house.put(2, 0, Due.text(2));
        house.put(3, 0, Due.def(1));
        house.put(5, 0, Due.text(1));
        house.bad(0b010);
        due.same("WORKED", house.look(5), 0b100001);
        house.bad(0b110);
        due.same("WORKED", house.look(5), 0b000100);
        house.bad(0b011);
        due.same("WORKED", house.look(5), 0b000100);
        house.bad(0b010);
        due.same("WORKED", house.look(5), 0);
        due.same("CHANGES", house.look(0), 8);
        house.bad(0);
        due.same("WORKED", house.look(5), 0b100001);
        house.day();
        due.same("WORKED by the latest CHANGE", house.look(5), 0b100001);
    }

    private static void countsDays(Due due) {
        FindingHouse house = new FindingHouse();
        due.same("day()", house.day(), 1);
        due.same("DAY", house.look(1), 1);
        due.same("CHANGES", house.look(0), 0);
        for (int day = 2; day <= 10000; day++) {
            house.day();
        }
        due.same("DAY", house.look(1), 10000);
        due.same("day()", house.day(), -1);
        due.same("DAY", house.look(1), 10000);
    }

    private static void looks(Due due) {
        FindingHouse house = new FindingHouse();
        house.put(1, 0, Due.use(4));
        house.put(1, 1, Due.use(5));
        house.put(4, 0, Due.OPEN);
        house.put(4, 1, Due.CLOSE);
        house.cut(4, 0);
        house.cut(4, 0);
        house.bad(9);
        house.put(0, 0, Due.imports(1));
        house.put(1, 2, Due.def(5));
        house.day();
        house.day();
        house.silence(0, 3, 3);
        int[] want = {9, 2, 2, 1, 3, 0b000011, 4, 6, 9};
        for (int what = 0; what < want.length; what++) {
            due.same("look(" + what + ")", house.look(what), want[what]);
        }
        int[] others = {-1, 9, Integer.MIN_VALUE, Integer.MAX_VALUE};
        for (int what : others) {
            due.same("look(" + what + ")", house.look(what), -1);
        }
    }
}

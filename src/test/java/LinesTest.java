/** Promises 2, 3, 4 and 11: put, cut, change, line. */
public final class LinesTest {
    public static void main(String[] args) {
        Due due = new Due();
        puts(due);
        putsNoMoreThan32(due);
        refusesWrongPuts(due);
        cuts(due);
        changes(due);
        tellsLines(due);
        due.close();
    }

    private static void puts(Due due) {
        FindingHouse house = new FindingHouse();
        due.same("first put", house.put(5, 0, 255), 0);
        due.same("put behind the last", house.put(5, 1, 0), 1);
        due.same("put ahead of the first", house.put(5, 0, 7), 2);
        due.same("put between", house.put(5, 2, 224), 3);
        due.same("put in another file", house.put(0, 0, 6), 4);
        due.hasIds(house, 5, 2, 0, 3, 1);
        due.hasIds(house, 0, 4);
        due.same("byte", house.line(5, 1, 0), 255);
        due.same("byte", house.line(5, 2, 0), 224);
        due.same("CHANGES", house.look(0), 5);
        due.same("LINES", house.look(6), 5);
        due.same("IDS", house.look(7), 5);
    }

    private static void putsNoMoreThan32(Due due) {
        FindingHouse house = new FindingHouse();
        for (int k = 0; k < 32; k++) {
            due.same("put " + k, house.put(2, k / 2, Due.OPEN), k);
        }
        due.same("33rd put", house.put(2, 0, 1), -1);
        due.same("33rd put behind", house.put(2, 32, 1), -1);
        due.same("33rd put, CHANGES", house.look(0), 32);
        due.same("33rd put, IDS", house.look(7), 32);
        due.same("FINDINGS", house.look(2), 32);
        due.same("in another file", house.put(3, 0, 1), 32);
        due.holds("cut the last", house.cut(2, 31));
        due.same("then there is room", house.put(2, 31, 1), 33);
    }

    private static void refusesWrongPuts(Due due) {
        FindingHouse house = new FindingHouse();
        house.put(1, 0, 1);
        int[][] wrong = {{-1, 0, 1}, {6, 0, 1}, {1, -1, 1}, {1, 2, 1}, {1, 0, -1}, {1, 0, 256}, {0, 1, 1},
            {Integer.MIN_VALUE, 0, 0}, {1, Integer.MAX_VALUE, 0}, {1, Integer.MIN_VALUE, 0}, {1, 0, Integer.MAX_VALUE}};
        for (int[] w : wrong) {
            due.same("put(" + w[0] + ", " + w[1] + ", " + w[2] + ")", house.put(w[0], w[1], w[2]), -1);
        }
        due.same("CHANGES", house.look(0), 1);
        due.same("IDS", house.look(7), 1);
        due.same("LINES", house.look(6), 1);
    }

    private static void cuts(Due due) {
        FindingHouse house = new FindingHouse();
        for (int k = 0; k < 4; k++) {
            house.put(3, k, k);
        }
        due.holds("cut in the middle", house.cut(3, 1));
        due.hasIds(house, 3, 0, 2, 3);
        due.same("its byte", house.line(3, 1, 0), 2);
        due.holds("cut the first", house.cut(3, 0));
        due.holds("cut the last", house.cut(3, 1));
        due.hasIds(house, 3, 2);
        due.same("CHANGES", house.look(0), 7);
        int[][] wrong = {{3, 1}, {3, -1}, {-1, 0}, {6, 0}, {0, 0}, {3, Integer.MAX_VALUE}, {Integer.MIN_VALUE, 0}};
        for (int[] w : wrong) {
            due.refused("cut(" + w[0] + ", " + w[1] + ")", house.cut(w[0], w[1]));
        }
        due.same("CHANGES after none", house.look(0), 7);
        due.same("IDS are not given again", house.put(3, 0, 9), 4);
    }

    private static void changes(Due due) {
        FindingHouse house = new FindingHouse();
        house.put(4, 0, 10);
        house.put(4, 1, 11);
        due.holds("change", house.change(4, 1, 255));
        due.same("its byte", house.line(4, 1, 0), 255);
        due.hasIds(house, 4, 0, 1);
        due.same("CHANGES", house.look(0), 3);
        due.same("IDS", house.look(7), 2);
        int[][] wrong = {{4, 1, 255}, {4, 0, 10}, {4, 0, -1}, {4, 0, 256}, {4, 2, 1}, {4, -1, 1}, {-1, 0, 1},
            {6, 0, 1}, {0, 0, 1}, {Integer.MAX_VALUE, 0, 1}, {4, Integer.MIN_VALUE, 1}};
        for (int[] w : wrong) {
            due.refused("change(" + w[0] + ", " + w[1] + ", " + w[2] + ")", house.change(w[0], w[1], w[2]));
        }
        due.same("CHANGES after none", house.look(0), 3);
        due.same("byte after none", house.line(4, 0, 0), 10);
    }

    private static void tellsLines(Due due) {
        FindingHouse house = new FindingHouse();
        house.put(0, 0, 77);
        house.put(1, 0, 88);
        due.same("byte", house.line(1, 0, 0), 88);
        due.same("ID", house.line(1, 0, 1), 1);
        int[][] wrong = {{1, 0, 2}, {1, 0, -1}, {1, 1, 0}, {1, -1, 0}, {-1, 0, 0}, {6, 0, 0}, {2, 0, 1},
            {1, Integer.MAX_VALUE, 1}, {Integer.MAX_VALUE, 0, 1}, {1, 0, Integer.MIN_VALUE}};
        for (int[] w : wrong) {
            due.same("line(" + w[0] + ", " + w[1] + ", " + w[2] + ")", house.line(w[0], w[1], w[2]), -1);
        }
    }
}

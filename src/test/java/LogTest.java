/** Promise 17: log. */
public final class LogTest {
    public static void main(String[] args) {
        Due due = new Due();
        logsWhatEnded(due);
        ordersOneChangesFindings(due);
        goneAndMendedInTheirOldOrder(due);
        keepsTheLast60(due);
        keepsTheLast60OfOneChange(due);
        refusesWrongQuestions(due);
        due.close();
    }

    private static void logsWhatEnded(Due due) {
        FindingHouse house = new FindingHouse();
        house.put(0, 0, Due.use(1));
        house.put(0, 1, Due.OPEN);
        due.same("LOG", house.look(4), 0);
        house.cut(0, 0);
        due.same("LOG", house.look(4), 1);
        due.isLogged(house, 0, 0, 0, 1, 3);
        house.put(0, 1, Due.CLOSE);
        due.same("LOG", house.look(4), 2);
        due.isLogged(house, 0, 2, 1, 2, 4);
        due.isLogged(house, 1, 0, 0, 1, 3);
        house.cut(0, 1);
        house.put(0, 1, Due.CLOSE);
        due.isLogged(house, 0, 2, 1, 5, 6);
        due.isLogged(house, 1, 2, 1, 2, 4);
    }

    private static void ordersOneChangesFindings(Due due) {
        FindingHouse house = new FindingHouse();
        Due.tell(house, 0, Due.use(1), Due.imports(3), Due.use(2));
        Due.tell(house, 5, Due.imports(3), Due.use(2));
        Due.tell(house, 3, Due.use(1), Due.use(2));
        due.same("FINDINGS", house.look(2), 7);
        Due.tell(house, 3, Due.def(2), Due.def(1));
        due.same("FINDINGS", house.look(2), 0);
        due.same("LOG", house.look(4), 7);
        int[] ids = {4, 3, 6, 5, 2, 1, 0};
        int[] rules = {0, 4, 0, 0, 0, 4, 0};
        int[] sinces = {2, 2, 3, 3, 1, 1, 1};
        for (int i = 0; i < ids.length; i++) {
            due.isLogged(house, i, rules[i], ids[i], sinces[i], 4);
        }
    }

    private static void goneAndMendedInTheirOldOrder(Due due) {
        FindingHouse house = new FindingHouse();
        Due.tell(house, 2, Due.use(1), Due.OPEN, Due.use(2), Due.OPEN);
        due.same("kept", Due.tell(house, 2, Due.def(2), Due.OPEN, Due.CLOSE, Due.use(2), Due.def(1)), 2);
        due.same("LOG", house.look(4), 4);
        int[] ids = {3, 2, 1, 0};
        int[] rules = {2, 0, 2, 0};
        for (int i = 0; i < ids.length; i++) {
            due.isLogged(house, i, rules[i], ids[i], 1, 2);
        }
    }

    private static void keepsTheLast60(Due due) {
        FindingHouse house = new FindingHouse();
        for (int k = 0; k < 70; k++) {
            house.put(1, 0, Due.OPEN);
            house.cut(1, 0);
            due.same("LOG", house.look(4), Math.min(60, k + 1));
            due.isLogged(house, 0, 2, k, 2 * k + 1, 2 * k + 2);
        }
        due.isLogged(house, 59, 2, 10, 21, 22);
        due.same("log(60, 1)", house.log(60, 1), -1);
    }

    private static void keepsTheLast60OfOneChange(Due due) {
        FindingHouse house = new FindingHouse();
        for (int file = 0; file < 6; file++) {
            Due.tell(house, file, Due.times(32, Due.text(9)));
        }
        house.bad(1 << 9);
        due.same("FINDINGS", house.look(2), 192);
        due.same("finding(191, 3)", house.finding(191, 3), 191);
        due.same("finding(192, 3)", house.finding(192, 3), -1);
        house.bad(0);
        due.same("LOG", house.look(4), 60);
        for (int i = 0; i < 60; i++) {
            due.isLogged(house, i, 3, 191 - i, 7, 8);
        }
    }

    private static void refusesWrongQuestions(Due due) {
        FindingHouse house = new FindingHouse();
        house.put(1, 0, Due.OPEN);
        house.cut(1, 0);
        int[][] wrong = {{-1, 0}, {1, 0}, {0, -1}, {0, 4}, {Integer.MAX_VALUE, 0}, {Integer.MIN_VALUE, 0},
            {0, Integer.MAX_VALUE}, {0, Integer.MIN_VALUE}};
        for (int[] w : wrong) {
            due.same("log(" + w[0] + ", " + w[1] + ")", house.log(w[0], w[1]), -1);
        }
    }
}

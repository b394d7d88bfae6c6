/** The five rules of findings, their order, and promises 12 and 13: finding, find. */
public final class RulesTest {
    public static void main(String[] args) {
        Due due = new Due();
        usesWithoutDefs(due);
        usesOfSeveralImports(due);
        repeatedDefs(due);
        pairs(due);
        badTexts(due);
        uselessImports(due);
        otherKindsAreNothing(due);
        keepsTheRuleThoughTheLineChanged(due);
        ordersByFilesAndLines(due);
        refusesWrongQuestions(due);
        due.close();
    }

    private static void usesWithoutDefs(Due due) {
        FindingHouse house = new FindingHouse();
        house.put(0, 0, Due.use(31));
        due.isFinding(house, 0, 0, 0, 0, 0, 1);
        house.put(0, 1, Due.def(31));
        due.same("a DEF behind", house.look(2), 0);
        house.cut(0, 1);
        due.isFinding(house, 0, 0, 0, 0, 0, 3);
        house.put(1, 0, Due.def(31));
        due.same("a DEF elsewhere", house.look(2), 1);
        house.put(0, 1, Due.imports(1));
        due.same("is IMPORTED behind", house.look(2), 0);
        house.change(0, 1, Due.imports(7));
        due.same("modulo 6", house.look(2), 0);
        house.change(0, 1, Due.imports(2));
        due.same("not through another file", house.look(2), 2);
        house.put(2, 0, Due.imports(1));
        due.same("an IMPORT's IMPORT does not count", house.find(0, 0), 0);
    }

    private static void usesOfSeveralImports(Due due) {
        FindingHouse house = new FindingHouse();
        house.put(0, 0, Due.def(1));
        house.put(2, 0, Due.def(2));
        Due.tell(house, 4, Due.use(1), Due.use(2));
        due.same("neither IMPORTED", house.look(2), 2);
        house.put(4, 0, Due.imports(0));
        due.isFinding(house, 0, 0, 4, 2, 3, 3);
        due.same("one IMPORTED", house.look(2), 1);
        house.put(4, 3, Due.imports(2));
        due.same("both IMPORTED", house.look(2), 0);
    }

    private static void repeatedDefs(Due due) {
        FindingHouse house = new FindingHouse();
        Due.tell(house, 3, Due.def(0), Due.def(31), Due.def(0), Due.def(31), Due.def(0));
        due.same("FINDINGS", house.look(2), 3);
        due.isFinding(house, 0, 1, 3, 2, 2, 1);
        due.isFinding(house, 1, 1, 3, 3, 3, 1);
        due.isFinding(house, 2, 1, 3, 4, 4, 1);
        house.put(4, 0, Due.def(0));
        due.same("in another FILE", house.look(2), 3);
        house.cut(3, 0);
        due.same("FINDINGS", house.look(2), 2);
        due.isFinding(house, 0, 1, 3, 2, 3, 1);
    }

    private static void pairs(Due due) {
        FindingHouse house = new FindingHouse();
        Due.tell(house, 5, Due.CLOSE, Due.OPEN, Due.OPEN + 31, Due.CLOSE + 5, Due.OPEN);
        due.same("FINDINGS", house.look(2), 3);
        due.isFinding(house, 0, 2, 5, 0, 0, 1);
        due.isFinding(house, 1, 2, 5, 1, 1, 1);
        due.isFinding(house, 2, 2, 5, 4, 4, 1);
        house.put(5, 5, Due.CLOSE);
        house.put(5, 6, Due.CLOSE);
        house.put(5, 7, Due.CLOSE);
        due.same("FINDINGS", house.look(2), 2);
        due.isFinding(house, 1, 2, 5, 7, 7, 4);
        Due.tell(house, 5, Due.times(32, Due.OPEN));
        due.same("32 OPENS", house.look(2), 32);
        Due.tell(house, 5, Due.times(32, Due.CLOSE));
        due.same("32 CLOSES", house.look(2), 32);
    }

    private static void badTexts(Due due) {
        FindingHouse house = new FindingHouse();
        house.bad(1 << 4 | 1 << 31);
        Due.tell(house, 0, Due.text(4), Due.text(5), Due.text(31), Due.def(4));
        due.same("FINDINGS", house.look(2), 2);
        due.isFinding(house, 0, 3, 0, 0, 0, 2);
        due.isFinding(house, 1, 3, 0, 2, 2, 2);
    }

    private static void uselessImports(Due due) {
        FindingHouse house = new FindingHouse();
        house.put(0, 0, Due.imports(0));
        due.isFinding(house, 0, 4, 0, 0, 0, 1);
        house.put(0, 1, Due.def(3));
        house.put(0, 2, Due.use(3));
        due.isFinding(house, 0, 4, 0, 0, 0, 1);
        house.put(0, 3, Due.imports(31));
        due.isFinding(house, 1, 4, 0, 3, 3, 4);
        house.put(1, 0, Due.def(4));
        due.same("a DEF that it does not USE", house.look(2), 2);
        house.put(1, 1, Due.def(3));
        due.same("a DEF that it USES, though it has one itself", house.look(2), 1);
        house.cut(0, 2);
        due.isFinding(house, 1, 4, 0, 2, 3, 7);
        house.put(0, 3, Due.imports(1));
        due.same("each IMPORT of it", house.look(2), 3);
    }

    private static void otherKindsAreNothing(Due due) {
        FindingHouse house = new FindingHouse();
        house.bad(-1);
        for (int n = 0; n < 32; n++) {
            house.put(0, n, 6 * 32 + n);
            house.put(1, n, 7 * 32 + n);
        }
        due.same("FINDINGS", house.look(2), 0);
        due.same("LINES", house.look(6), 64);
    }

    private static void keepsTheRuleThoughTheLineChanged(Due due) {
        FindingHouse house = new FindingHouse();
        house.put(0, 0, Due.use(1));
        house.silence(0, 5, 8);
        house.change(0, 0, Due.use(2));
        due.isFinding(house, 0, 0, 0, 0, 0, 1);
        due.same("REASON", house.finding(0, 7), 8);
        house.change(0, 0, Due.OPEN);
        due.isFinding(house, 0, 2, 0, 0, 0, 3);
        due.same("SILENCED", house.finding(0, 5), 0);
        house.change(0, 0, Due.CLOSE);
        due.isFinding(house, 0, 2, 0, 0, 0, 3);
        house.change(0, 0, Due.use(1));
        due.isFinding(house, 0, 0, 0, 0, 0, 5);
        due.same("LOG", house.look(4), 2);
    }

    private static void ordersByFilesAndLines(Due due) {
        FindingHouse house = new FindingHouse();
        house.put(4, 0, Due.OPEN);
        house.put(1, 0, Due.use(1));
        house.put(1, 0, Due.CLOSE);
        house.put(0, 0, Due.imports(0));
        due.isFinding(house, 0, 4, 0, 0, 3, 4);
        due.isFinding(house, 1, 2, 1, 0, 2, 3);
        due.isFinding(house, 2, 0, 1, 1, 1, 2);
        due.isFinding(house, 3, 2, 4, 0, 0, 1);
        house.put(1, 0, 255);
        due.isFinding(house, 1, 2, 1, 1, 2, 3);
        due.isFinding(house, 2, 0, 1, 2, 1, 2);
    }

    private static void refusesWrongQuestions(Due due) {
        FindingHouse house = new FindingHouse();
        house.put(2, 0, Due.use(1));
        house.put(3, 0, Due.use(1));
        house.put(3, 1, Due.def(9));
        due.same("not SILENCED", house.finding(1, 5), 0);
        due.same("for no DAYS", house.finding(1, 6), 0);
        due.same("without a REASON", house.finding(1, 7), -1);
        int[][] wrong = {{-1, 0}, {2, 0}, {1, -1}, {1, 8}, {Integer.MAX_VALUE, 4}, {Integer.MIN_VALUE, 4},
            {0, Integer.MAX_VALUE}, {0, Integer.MIN_VALUE}};
        for (int[] w : wrong) {
            due.same("finding(" + w[0] + ", " + w[1] + ")", house.finding(w[0], w[1]), -1);
        }
        int[][] none = {{1, 0}, {0, 2}, {0, 3}, {-1, 0}, {5, 0}, {0, -1}, {-1, -1}, {Integer.MAX_VALUE, 0},
            {0, Integer.MIN_VALUE}};
        for (int[] w : none) {
            due.same("find(" + w[0] + ", " + w[1] + ")", house.find(w[0], w[1]), -1);
        }
    }
}

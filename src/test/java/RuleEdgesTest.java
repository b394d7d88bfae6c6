/** The edges of the terms that the FINDINGS are told with: KINDS, numbers, FILES modulo 6, and the five RULES. */
public final class RuleEdgesTest {
    private static final int NO_RULE = -1;
    private static final int[] RULE_OF_KIND = {3, 1, 0, 2, 2, 4, NO_RULE, NO_RULE};

    private final Due due = new Due();

    public static void main(String[] args) {
        RuleEdgesTest test = new RuleEdgesTest();
        test.everyByteIsOfItsKind();
        test.importIsOfFileNModulo6();
        test.useIsServedByItsNumberAlone();
        test.useIsServedFromAnyLine();
        test.useIsServedByAnyOfSeveral();
        test.useIsServedByNoImportsImport();
        test.defIsBehindAnother();
        test.pairsFromTheFirstToTheLastLine();
        test.pairsOf32Lines();
        test.textIsBadByItsNumberAlone();
        test.importOfAnEmptyFile();
        test.importByAFileWithoutUses();
        test.importOfItself();
        test.sinceIsWithoutABreak();
        test.ruleStaysThoughTheByteChanges();
        test.oneRuleAtALine();
        test.due.close();
    }

    /** All TEXTS are BAD, each DEF is there already, so that it tells its KIND; a USE does when that DEF is cut. */
    private void everyByteIsOfItsKind() {
        for (int line = 0; line <= 255; line++) {
            FindingHouse house = new FindingHouse();
            house.bad(-1);
            house.put(2, 0, Due.def(line % 32));
            int id = house.put(2, 1, line);
            boolean isUse = line / 32 == 2;
            int rule = isUse ? NO_RULE : RULE_OF_KIND[line / 32];
            due.same("FINDINGS with byte " + line, house.look(2), rule == NO_RULE ? 0 : 1);
            due.same("RULE at byte " + line, house.finding(0, 0), rule);
            due.same("find(" + rule + ") at byte " + line, house.find(rule, id), rule == NO_RULE ? -1 : 0);
            house.cut(2, 0);
            due.same("USE at byte " + line, house.find(0, id), isUse ? 0 : -1);
        }
    }

    private void importIsOfFileNModulo6() {
        for (int n = 0; n < 32; n++) {
            for (int file = 0; file < 6; file++) {
                int user = (file + 1) % 6;
                FindingHouse house = new FindingHouse();
                house.put(file, 0, Due.def(9));
                house.put(user, 0, Due.use(9));
                house.put(user, 1, Due.imports(n));
                boolean serves = n % 6 == file;
                String call = "IMPORT " + n + " for a DEF in FILE " + file;
                due.same(call + ", RULE 0", house.find(0, 1), serves ? -1 : 0);
                due.same(call + ", RULE 4", house.find(4, 2), serves ? -1 : 1);
            }
        }
    }

    private void useIsServedByItsNumberAlone() {
        int[] numbers = {0, 1, 30, 31};
        for (int n : numbers) {
            for (int other = 0; other < 32; other++) {
                FindingHouse own = Houses.told(0, Due.use(n), Due.def(other));
                due.same("USE " + n + " by DEF " + other, own.look(2), n == other ? 0 : 1);
                FindingHouse imported = Houses.told(0, Due.use(n), Due.imports(5));
                imported.put(5, 0, Due.def(other));
                due.same("USE " + n + " by an IMPORTED DEF " + other, imported.look(2), n == other ? 0 : 2);
            }
        }
    }

    private void useIsServedFromAnyLine() {
        int[] places = {0, 1, 30, 31};
        for (int at : places) {
            for (int from : places) {
                int[] lines = Due.times(32, 255);
                lines[at] = Due.imports(3);
                int[] defs = Due.times(32, 255);
                defs[from] = Due.def(0);
                FindingHouse house = Houses.told(1, lines);
                Due.tell(house, 3, defs);
                int use = at == 0 ? 31 : 0;
                house.change(1, use, Due.use(0));
                due.same("IMPORT at " + at + ", DEF at " + from, house.look(2), 0);
            }
        }
    }

    /** Its own FILE and each one that it IMPORTS, the first and the last of them too. */
    private void useIsServedByAnyOfSeveral() {
        for (int file = 0; file < 6; file++) {
            FindingHouse house = Houses.told(2, Due.use(8), Due.imports(5), Due.imports(0), Due.imports(3));
            due.same("USE 8 by none", house.look(2), 4);
            house.put(file, 0, Due.def(8));
            boolean imported = file == 0 || file == 3 || file == 5;
            due.same("USE 8 by a DEF in FILE " + file, house.find(0, 0), imported || file == 2 ? -1 : 0);
            due.same("the IMPORTS that are FINDINGS", house.since(0, 0), imported ? 2 : file == 2 ? 3 : 4);
        }
    }

    private void useIsServedByNoImportsImport() {
        FindingHouse house = Houses.told(0, Due.use(1), Due.imports(1));
        Due.tell(house, 1, Due.imports(2), Due.use(1));
        Due.tell(house, 2, Due.def(1));
        due.isFinding(house, 0, 0, 0, 0, 0, 1);
        due.isFinding(house, 1, 4, 0, 1, 1, 1);
        due.same("FINDINGS", house.look(2), 2);
    }

    private void defIsBehindAnother() {
        int[] row = Due.times(32, 255);
        row[0] = Due.def(31);
        row[31] = Due.def(31);
        FindingHouse house = Houses.told(4, row);
        due.same("the first and the last LINE", house.look(2), 1);
        due.isFinding(house, 0, 1, 4, 31, 31, 1);
        house.change(4, 0, Due.def(30));
        due.same("another number", house.look(2), 0);
        house.change(4, 30, Due.def(31));
        due.isFinding(house, 0, 1, 4, 31, 31, 3);
        due.same("the first of two is none", house.look(2), 1);

        FindingHouse apart = Houses.told(0, Due.def(5), Due.imports(1), Due.use(5));
        Due.tell(apart, 1, Due.def(5));
        due.same("in an IMPORTED FILE", apart.look(2), 0);

        FindingHouse mixed = Houses.told(0, Due.def(0), Due.def(31), Due.def(0), Due.def(31));
        due.same("with another number between", mixed.look(2), 2);
        due.isFinding(mixed, 0, 1, 0, 2, 2, 1);

        FindingHouse all = Houses.told(0, Due.times(32, Due.def(0)));
        due.same("32 alike", all.look(2), 31);
        due.isFinding(all, 0, 1, 0, 1, 1, 1);
        all.cut(0, 0);
        due.same("31 alike", all.look(2), 30);
        due.isLogged(all, 0, 1, 1, 1, 2);
    }

    private void pairsFromTheFirstToTheLastLine() {
        int[] row = Due.times(32, 255);
        row[0] = Due.OPEN;
        row[31] = Due.CLOSE;
        FindingHouse house = Houses.told(0, row);
        due.same("OPEN first, CLOSE last", house.look(2), 0);
        house.change(0, 0, Due.CLOSE);
        due.same("CLOSE first, CLOSE last", house.look(2), 2);
        house.change(0, 31, Due.OPEN);
        due.same("CLOSE first, OPEN last", house.look(2), 2);
        house.change(0, 0, 255);
        due.same("OPEN last", house.look(2), 1);
        due.isFinding(house, 0, 2, 0, 31, 31, 2);

        FindingHouse last = Houses.told(0, Due.OPEN, Due.OPEN, Due.CLOSE);
        due.same("the last OPEN is closed", last.look(2), 1);
        due.isFinding(last, 0, 2, 0, 0, 0, 1);
        last.put(0, 3, Due.OPEN + 7);
        last.put(0, 4, Due.CLOSE + 9);
        due.isFinding(last, 0, 2, 0, 0, 0, 1);
        last.put(0, 5, Due.CLOSE);
        due.same("the last that is not closed yet", last.look(2), 0);
        last.put(0, 6, Due.CLOSE);
        due.isFinding(last, 0, 2, 0, 6, 6, 5);

        FindingHouse apart = Houses.told(0, Due.OPEN);
        apart.put(1, 0, Due.CLOSE);
        due.same("not across FILES", apart.look(2), 2);
    }

    private void pairsOf32Lines() {
        for (int opens = 0; opens <= 32; opens++) {
            int[] row = Due.times(32, Due.CLOSE);
            int[] turned = Due.times(32, Due.OPEN);
            for (int k = 0; k < opens; k++) {
                row[k] = Due.OPEN;
                turned[k] = Due.CLOSE;
            }
            FindingHouse house = Houses.told(3, row);
            due.same(opens + " OPENS, then CLOSES", house.look(2), Math.abs(32 - 2 * opens));
            Due.tell(house, 3, turned);
            due.same(opens + " CLOSES, then OPENS", house.look(2), 32);
        }
    }

    private void textIsBadByItsNumberAlone() {
        for (int n = 0; n < 32; n++) {
            FindingHouse house = new FindingHouse();
            house.bad(1 << n);
            for (int kind = 1; kind < 8; kind++) {
                int other = house.put(0, 0, 32 * kind + n);
                due.same("no TEXT, but KIND " + kind, house.find(3, other), -1);
            }
            int id = house.put(0, 0, Due.text(n));
            due.same("TEXT " + n, house.find(3, id), 0);
            house.change(0, 0, Due.text((n + 1) % 32));
            due.same("TEXT of the next number", house.find(3, id), -1);
        }
    }

    private void importOfAnEmptyFile() {
        FindingHouse house = Houses.told(0, Due.imports(1), Due.use(0));
        due.isFinding(house, 0, 4, 0, 0, 0, 1);
        house.put(1, 0, Due.use(0));
        due.isFinding(house, 0, 4, 0, 0, 0, 1);
        house.put(1, 1, Due.def(31));
        due.isFinding(house, 0, 4, 0, 0, 0, 1);
        house.put(1, 0, Due.def(0));
        due.same("one DEF that it USES is enough", house.look(2), 0);
        house.load(1);
        due.isFinding(house, 0, 4, 0, 0, 0, 5);
    }

    private void importByAFileWithoutUses() {
        FindingHouse house = Houses.told(1, Due.def(0), Due.def(31));
        house.put(0, 0, Due.imports(1));
        due.isFinding(house, 0, 4, 0, 0, 2, 2);
        house.put(0, 1, Due.def(31));
        due.same("a DEF of its own is no USE", house.find(4, 2), 0);
        house.put(0, 1, Due.use(31));
        due.same("a USE that its own DEF serves too", house.look(2), 0);
        house.put(0, 0, Due.imports(7));
        due.same("each IMPORT of it alike", house.look(2), 0);
    }

    private void importOfItself() {
        for (int file = 0; file < 6; file++) {
            for (int n = 0; n < 32; n++) {
                FindingHouse house = Houses.told(file, Due.imports(n), Due.use(3), Due.def(3));
                for (int other = 0; other < 6; other++) {
                    if (other != file) {
                        house.put(other, 0, Due.def(3));
                    }
                }
                boolean itself = n % 6 == file;
                due.same("IMPORT " + n + " in FILE " + file, house.look(2), itself ? 1 : 0);
                due.same("its number", house.find(4, 0), itself ? 0 : -1);
            }
        }
    }

    private void sinceIsWithoutABreak() {
        FindingHouse house = Houses.told(0, Due.use(1));
        due.isFinding(house, 0, 0, 0, 0, 0, 1);
        house.put(0, 0, 255);
        due.isFinding(house, 0, 0, 0, 1, 0, 1);
        house.put(0, 0, Due.def(1));
        house.cut(0, 0);
        due.isFinding(house, 0, 0, 0, 1, 0, 4);
        due.isLogged(house, 0, 0, 0, 1, 3);
    }

    private void ruleStaysThoughTheByteChanges() {
        FindingHouse house = Houses.told(0, Due.use(1), Due.OPEN);
        house.change(0, 0, Due.use(2));
        house.change(0, 1, Due.CLOSE);
        due.isFinding(house, 0, 0, 0, 0, 0, 1);
        due.isFinding(house, 1, 2, 0, 1, 1, 1);
        due.same("LOG", house.look(4), 0);
        house.change(0, 0, Due.OPEN + 1);
        due.same("an OPEN that the CLOSE behind it closes", house.look(2), 0);
        house.change(0, 1, Due.OPEN);
        due.isFinding(house, 0, 2, 0, 0, 0, 5);
        due.isFinding(house, 1, 2, 0, 1, 1, 5);
    }

    /** FINDINGS are ordered by FILES, LINES, RULES, and a LINE has one at the most. */
    private void oneRuleAtALine() {
        FindingHouse house = new FindingHouse();
        house.bad(-1);
        int[] row = {Due.imports(5), Due.text(0), Due.CLOSE, Due.def(1), Due.def(1), Due.use(2), Due.OPEN};
        int[] rules = {4, 3, 2, 1, 0, 2};
        int[] lines = {0, 1, 2, 4, 5, 6};
        Due.tell(house, 5, row);
        Due.tell(house, 0, row);
        due.same("FINDINGS", house.look(2), 12);
        for (int i = 0; i < 6; i++) {
            due.isFinding(house, i, rules[i], 0, lines[i], 7 + lines[i], 3);
            due.isFinding(house, 6 + i, rules[i], 5, lines[i], lines[i], 2);
        }
    }
}

/** Which files are worked again (section 3 of the terms, seen by look 5). */
public final class WorkedTest {
    public static void main(String[] args) {
        Due due = new Due();
        importersOfOtherDefs(due);
        theSetCountsNotTheLines(due);
        eachImportCounts(due);
        refusedCallsWorkNothing(due);
        due.close();
    }

    private static FindingHouse importing() {
        FindingHouse house = new FindingHouse();
        house.put(0, 0, Due.imports(2));
        house.put(4, 0, Due.imports(8));
        house.put(5, 0, Due.imports(4));
        return house;
    }

    private static void importersOfOtherDefs(Due due) {
        FindingHouse house = importing();
        house.put(2, 0, Due.use(1));
        due.same("no DEF", house.look(5), 0b000100);
        house.put(2, 0, Due.def(1));
        due.same("a DEF put", house.look(5), 0b010101);
        house.change(2, 0, Due.def(2));
        due.same("a DEF changed", house.look(5), 0b010101);
        house.change(2, 0, Due.text(2));
        due.same("a DEF no more", house.look(5), 0b010101);
        Due.tell(house, 2, Due.def(31));
        due.same("a DEF told", house.look(5), 0b010101);
        house.cut(2, 0);
        due.same("a DEF cut", house.look(5), 0b010101);
        house.cut(4, 0);
        due.same("an IMPORT cut", house.look(5), 0b010000);
        house.put(2, 0, Due.def(1));
        due.same("one that IMPORTS no more", house.look(5), 0b000101);
        house.put(2, 0, Due.imports(2));
        house.put(2, 0, Due.def(7));
        due.same("one that IMPORTS itself", house.look(5), 0b000101);
    }

    private static void theSetCountsNotTheLines(Due due) {
        FindingHouse house = importing();
        house.put(2, 0, Due.def(1));
        house.put(2, 0, Due.def(1));
        due.same("a second DEF 1", house.look(5), 0b000100);
        house.cut(2, 1);
        due.same("the second one cut", house.look(5), 0b000100);
        Due.tell(house, 2, Due.text(1), Due.def(1));
        due.same("told anew", house.look(5), 0b000100);
        Due.tell(house, 2, Due.def(1), Due.def(2));
        due.same("told another set", house.look(5), 0b010101);
        Due.tell(house, 2, Due.def(2), Due.def(1));
        due.same("in another order", house.look(5), 0b000100);
    }

    private static void eachImportCounts(Due due) {
        FindingHouse house = new FindingHouse();
        Due.tell(house, 3, Due.imports(0), Due.imports(1), Due.imports(2));
        for (int file = 0; file < 3; file++) {
            house.put(file, 0, Due.def(file));
            due.same("IMPORT of " + file, house.look(5), 1 << 3 | 1 << file);
        }
        house.put(4, 0, Due.def(1));
        due.same("none IMPORTS it", house.look(5), 1 << 4);
    }

    private static void refusedCallsWorkNothing(Due due) {
        FindingHouse house = importing();
        house.put(2, 0, Due.def(1));
        house.put(2, 9, Due.def(1));
        house.cut(3, 0);
        house.change(2, 0, Due.def(1));
        house.bad(0);
        house.load(6);
        house.feed(1, 2, 3, 4, 5);
        due.same("WORKED", house.look(5), 0b010101);
        due.same("CHANGES", house.look(0), 4);
    }
}

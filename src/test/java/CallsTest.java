import java.util.function.IntConsumer;

/** "An object is used for at most 512 calls": whatever they are, the 512th is answered as the first. */
public final class CallsTest {
    private static final int CALLS = 512;

    public static void main(String[] args) {
        Due due = new Due();
        putsAndCuts(due);
        changes(due);
        badNumbers(due);
        loads(due);
        mostIds(due);
        days(due);
        mostEnded(due);
        looks(due);
        due.close();
    }

    private static void each(int calls, IntConsumer call) {
        for (int k = 0; k < calls; k++) {
            call.accept(k);
        }
    }

    private static void putsAndCuts(Due due) {
        FindingHouse house = new FindingHouse();
        each(CALLS / 2, k -> {
            due.same("put " + k, house.put(k % 6, 0, Due.OPEN), k);
            due.holds("cut " + k, house.cut(k % 6, 0));
        });
    }

    private static void changes(Due due) {
        FindingHouse house = new FindingHouse();
        due.same("put", house.put(0, 0, 0), 0);
        each(CALLS - 2, k -> due.holds("change " + k, house.change(0, 0, 1 + k % 2)));
        due.same("CHANGES by the 512th call", house.look(0), CALLS - 1);
    }

    private static void badNumbers(Due due) {
        FindingHouse house = new FindingHouse();
        due.same("put", house.put(0, 0, Due.text(0)), 0);
        each(CALLS - 2, k -> due.holds("bad " + k, house.bad(k + 1)));
        due.same("LOG by the 512th call", house.look(4), 60);

        FindingHouse last = new FindingHouse();
        due.same("put", last.put(0, 0, Due.text(0)), 0);
        each(CALLS - 3, k -> due.holds("bad " + k, last.bad(k + 1)));
        due.same("SINCE", last.finding(0, 4), CALLS - 2);
        due.same("since by the 512th call", last.since(CALLS - 3, 0), 1);
    }

    private static void loads(Due due) {
        FindingHouse house = new FindingHouse();
        each(CALLS - 1, k -> due.same("load " + k, house.load(k % 6), 0));
        due.same("CHANGES by the 512th call", house.look(0), CALLS - 1);
    }

    /** Four calls tell a FILE 32 new LINES: no run gives more IDS. */
    private static void mostIds(Due due) {
        FindingHouse house = new FindingHouse();
        each(CALLS / 4 - 1, k -> {
            due.same("load " + k, Due.tell(house, 3, Due.times(32, 224 + k % 2)), 0);
        });
        due.same("IDS given", house.look(7), 32 * (CALLS / 4 - 1));
        due.same("CHANGES", house.look(0), CALLS / 4 - 1);
        due.same("the last ID", house.line(3, 31, 1), 32 * (CALLS / 4 - 1) - 1);
        due.same("the next ID by the 512th call", house.put(0, 0, 1), 32 * (CALLS / 4 - 1));
    }

    private static void days(Due due) {
        FindingHouse house = new FindingHouse();
        each(CALLS, k -> due.same("day " + k, house.day(), k + 1));
    }

    /** 192 FINDINGS come and end over and over, far more than the LOG has. */
    private static void mostEnded(Due due) {
        FindingHouse house = new FindingHouse();
        each(6, file -> due.same("load", Due.tell(house, file, Due.times(32, Due.text(31))), 0));
        each(CALLS - 24 - 4, k -> due.holds("bad " + k, house.bad(k % 2 == 0 ? 1 << 31 : 0)));
        int end = 6 + CALLS - 24 - 4;
        due.same("LOG", house.look(4), 60);
        due.same("the latest ID", house.log(0, 1), 191);
        due.same("its end", house.log(0, 3), end);
        due.same("the last of the LOG by the 512th call", house.log(59, 1), 191 - 59);
    }

    private static void looks(Due due) {
        FindingHouse house = new FindingHouse();
        due.same("put", house.put(0, 0, Due.use(1)), 0);
        each(CALLS - 1, k -> due.same("find " + k, house.find(0, 0), 0));
    }
}

import java.util.ArrayList;
import java.util.List;

/** Every question that the calls which only look can answer about a small house, numbered. */
final class Questions {
    private static final int LOOK = 0;
    private static final int LINE = 1;
    private static final int FINDING = 2;
    private static final int FIND = 3;
    private static final int SINCE = 4;
    private static final int LOG = 5;
    private static final String[] NAMES = {"look", "line", "finding", "find", "since", "log"};

    /** Each one past the last that can be there, so that what comes to be behind it is seen too. */
    private static final int MOST_FINDINGS = 6 * 32 + 1;
    private static final int MOST_IDS = 6 * 32 + 8;
    private static final int MOST_CHANGES = 80;
    private static final int MOST_LOGGED = 60 + 1;

    private static final List<int[]> ALL = all();

    private Questions() {
    }

    static int count() {
        return ALL.size();
    }

    static String name(int number) {
        int[] q = ALL.get(number);
        String arguments = q[0] == LOOK ? "" + q[1] : q[1] + ", " + q[2];
        return NAMES[q[0]] + "(" + arguments + (q[0] == LINE ? ", " + q[3] : "") + ")";
    }

    static int ask(FindingHouse house, int number) {
        int[] q = ALL.get(number);
        switch (q[0]) {
            case LOOK: return house.look(q[1]);
            case LINE: return house.line(q[1], q[2], q[3]);
            case FINDING: return house.finding(q[1], q[2]);
            case FIND: return house.find(q[1], q[2]);
            case SINCE: return house.since(q[1], q[2]);
            default: return house.log(q[1], q[2]);
        }
    }

    static int[] ask(FindingHouse house, int from, int to) {
        int[] answers = new int[to - from];
        for (int k = from; k < to; k++) {
            answers[k - from] = ask(house, k);
        }
        return answers;
    }

    private static List<int[]> all() {
        List<int[]> list = new ArrayList<>();
        for (int what = 0; what <= 8; what++) {
            list.add(new int[] {LOOK, what});
        }
        for (int file = 0; file <= 5; file++) {
            for (int at = 0; at <= 32; at++) {
                list.add(new int[] {LINE, file, at, 0});
                list.add(new int[] {LINE, file, at, 1});
            }
        }
        addPairs(list, FINDING, 0, MOST_FINDINGS, 8);
        addPairs(list, FIND, 0, 5, MOST_IDS);
        addPairs(list, SINCE, -1, MOST_CHANGES, 2);
        addPairs(list, LOG, 0, MOST_LOGGED, 4);
        return list;
    }

    private static void addPairs(List<int[]> list, int call, int from, int to, int others) {
        for (int k = from; k < to; k++) {
            for (int other = 0; other < others; other++) {
                list.add(new int[] {call, k, other});
            }
        }
    }
}

/** What the tests share: counting wrong answers, and short words for lines and for telling a file anew. */
final class Due {
    static final int OPEN = 3 * 32;
    static final int CLOSE = 4 * 32;

    private int asked = 0;
    private int wrong = 0;

    static int text(int n) {
        return n;
    }

    static int def(int n) {
        return 32 + n;
    }

    static int use(int n) {
        return 64 + n;
    }

    static int imports(int n) {
        return 5 * 32 + n;
    }

    void same(String call, long got, long want) {
        asked++;
        if (got != want) {
            wrong++;
            System.out.println(call + " answered " + got + ", due is " + want);
        }
    }

    void holds(String call, boolean got) {
        same(call, got ? 1 : 0, 1);
    }

    void refused(String call, boolean got) {
        same(call, got ? 1 : 0, 0);
    }

    /** Every answer of finding() about one finding that is not silenced. */
    void isFinding(FindingHouse house, int i, int rule, int file, int line, int id, int since) {
        int[] want = {rule, file, line, id, since};
        for (int what = 0; what < want.length; what++) {
            same("finding(" + i + ", " + what + ")", house.finding(i, what), want[what]);
        }
        same("find(" + rule + ", " + id + ")", house.find(rule, id), i);
    }

    void isLogged(FindingHouse house, int i, int rule, int id, int since, int end) {
        int[] want = {rule, id, since, end};
        for (int what = 0; what < want.length; what++) {
            same("log(" + i + ", " + what + ")", house.log(i, what), want[what]);
        }
    }

    void hasIds(FindingHouse house, int file, int... ids) {
        for (int at = 0; at < ids.length; at++) {
            same("line(" + file + ", " + at + ", 1)", house.line(file, at, 1), ids[at]);
        }
        same("line(" + file + ", " + ids.length + ", 1)", house.line(file, ids.length, 1), -1);
    }

    /** Puts bytes (40 at most) on an empty tape. */
    static void fill(FindingHouse house, int... bytes) {
        for (int from = 0; from < bytes.length; from += 20) {
            int[] numbers = new int[5];
            for (int k = 0; k < 20; k++) {
                int next = from + k < bytes.length ? bytes[from + k] : 0;
                numbers[k / 4] = (numbers[k / 4] << 8) | next;
            }
            house.feed(numbers[0], numbers[1], numbers[2], numbers[3], numbers[4]);
        }
        house.end(bytes.length);
    }

    static int tell(FindingHouse house, int file, int... bytes) {
        fill(house, bytes);
        return house.load(file);
    }

    static int[] times(int count, int line) {
        int[] bytes = new int[count];
        java.util.Arrays.fill(bytes, line);
        return bytes;
    }

    void close() {
        System.out.println(wrong == 0 ? asked + " answers are as due" : wrong + " of " + asked + " answers are not as due");
        if (wrong != 0) {
            System.exit(1);
        }
    }
}

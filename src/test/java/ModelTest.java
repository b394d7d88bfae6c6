import java.util.ArrayList;
import java.util.List;
import java.util.Random;

/**
 * Seeded runs against the model, each of just the 512 calls that an object is promised for: the answers of all of them
 * are compared, those of the calls that change something too.
 */
public final class ModelTest {
    private static final int RUNS = 4000;
    private static final int CALLS = 512;
    private static final int LONGEST_STEP = 4;

    private final Due due;
    private final int run;
    private final Random random;
    private final FindingHouse house = new FindingHouse();
    private final Model model = new Model();
    private final int numbers;
    private final int asksAfterStep;
    private int calls = 0;

    public static void main(String[] args) {
        Due due = new Due();
        for (int run = 0; run < RUNS; run++) {
            new ModelTest(due, run).go();
        }
        due.close();
    }

    /** Few numbers let LINES meet; many questions find out what one step did, few let a run grow long. */
    private ModelTest(Due due, int run) {
        this.due = due;
        this.run = run;
        random = new Random(run);
        numbers = 1 + random.nextInt(run % 3 == 0 ? 32 : 4);
        asksAfterStep = run % 4 == 0 ? 12 : 3;
    }

    private void go() {
        if (run % 2 == 0) {
            tellManyLines();
        }
        while (calls + LONGEST_STEP + asksAfterStep <= CALLS) {
            step();
            for (int k = 0; k < asksAfterStep; k++) {
                ask();
            }
        }
        while (calls < CALLS) {
            ask();
        }
        due.same("run " + run + ": its calls", calls, CALLS);
    }

    private void same(String call, int got, int want) {
        calls++;
        due.same("run " + run + ", call " + calls + ": " + call, got, want);
    }

    private void same(String call, boolean got, boolean want) {
        same(call, got ? 1 : 0, want ? 1 : 0);
    }

    /** From least to most, both too. */
    private int between(int least, int most) {
        return least + random.nextInt(most - least + 1);
    }

    private boolean oneIn(int many) {
        return random.nextInt(many) == 0;
    }

    private int someLine() {
        return 32 * random.nextInt(oneIn(4) ? 8 : 6) + random.nextInt(numbers);
    }

    private void tellManyLines() {
        for (int file = 0; file < 6; file++) {
            List<Integer> lines = new ArrayList<>();
            for (int k = between(20, 32); k > 0; k--) {
                lines.add(someLine());
            }
            tell(file, lines);
        }
    }

    private void step() {
        int file = oneIn(20) ? between(-2, 7) : random.nextInt(6);
        int size = model.isFile(file) ? model.size(file) : 0;
        int at = between(oneIn(9) ? -1 : 0, size + 1);
        int line = oneIn(20) ? between(-70, 329) : someLine();
        switch (random.nextInt(11)) {
            case 0: case 1: case 2: put(file, at, line); break;
            case 3: cut(file, at); break;
            case 4: change(file, at, line); break;
            case 5: tell(file, likeFile(file)); break;
            case 6: bad(); break;
            case 7: same("day()", house.day(), model.day()); break;
            case 8: silence(); break;
            case 9: speak(); break;
            default: turnTape(file); break;
        }
    }

    private void put(int file, int at, int line) {
        same("put(" + file + ", " + at + ", " + line + ")", house.put(file, at, line), model.put(file, at, line));
    }

    private void cut(int file, int at) {
        same("cut(" + file + ", " + at + ")", house.cut(file, at), model.cut(file, at));
    }

    private void change(int file, int at, int line) {
        String call = "change(" + file + ", " + at + ", " + line + ")";
        same(call, house.change(file, at, line), model.change(file, at, line));
    }

    private void feed(int[] n) {
        String call = "feed" + java.util.Arrays.toString(n);
        same(call, house.feed(n[0], n[1], n[2], n[3], n[4]), model.feed(n));
    }

    private void end(int n) {
        same("end(" + n + ")", house.end(n), model.end(n));
    }

    private void load(int file) {
        same("load(" + file + ")", house.load(file), model.load(file));
    }

    /** One call of the TAPE by itself, so that there are bytes on it while other calls are made. */
    private void turnTape(int file) {
        switch (random.nextInt(3)) {
            case 0: feed(random.ints(5).toArray()); break;
            case 1: end(between(-1, model.tapeSize() + 1)); break;
            default: load(file); break;
        }
    }

    /** What the FILE has, with some LINES moved, gone or new; now and then too many of them. */
    private List<Integer> likeFile(int file) {
        List<Integer> lines = new ArrayList<>();
        if (model.isFile(file)) {
            for (int line : model.bytes(file)) {
                lines.add(line);
            }
        }
        for (int edits = random.nextInt(8); edits > 0; edits--) {
            int at = random.nextInt(lines.size() + 1);
            if (random.nextBoolean()) {
                lines.add(at, someLine());
            } else if (at < lines.size()) {
                lines.add(random.nextInt(lines.size()), lines.remove(at));
            }
        }
        while (!oneIn(3) && !lines.isEmpty()) {
            lines.remove(random.nextInt(lines.size()));
        }
        while (lines.size() < 40 && (oneIn(12) || lines.size() > 30 && oneIn(2))) {
            lines.add(someLine());
        }
        return lines;
    }

    /** Behind what the TAPE has already, if it has something: then it may be too much for it. */
    private void tell(int file, List<Integer> lines) {
        int size = Math.min(40, lines.size());
        int bytes = Math.min(40, model.tapeSize() + size);
        for (int from = 0; from < size; from += 20) {
            int[] n = new int[5];
            for (int k = 0; k < 20; k++) {
                int line = from + k < size ? lines.get(from + k) : 32;
                n[k / 4] |= line << 24 - k % 4 * 8;
            }
            feed(n);
        }
        end(bytes);
        load(file);
    }

    private void bad() {
        int turned = 1 << random.nextInt(numbers);
        int now = model.look(8);
        int set = oneIn(6) ? now : oneIn(5) ? random.nextInt() : now ^ turned;
        same("bad(" + set + ")", house.bad(set), model.bad(set));
    }

    private int someFinding() {
        return between(-1, model.look(2));
    }

    private void silence() {
        int i = someFinding();
        int days = oneIn(4) ? between(-1, 101) : between(1, 6);
        int reason = oneIn(4) ? between(-1, 101) : between(0, 99);
        String call = "silence(" + i + ", " + days + ", " + reason + ")";
        same(call, house.silence(i, days, reason), model.silence(i, days, reason));
    }

    private void speak() {
        int i = someFinding();
        same("speak(" + i + ")", house.speak(i), model.speak(i));
    }

    private void ask() {
        switch (random.nextInt(7)) {
            case 0: look(between(oneIn(9) ? -1 : 0, 9)); break;
            case 1: case 2: finding(someFinding(), between(-1, 8)); break;
            case 3: find(); break;
            case 4: since(between(-1, model.look(0) + 1), between(oneIn(9) ? -1 : 0, 2)); break;
            case 5: log(between(-1, model.look(4)), between(-1, 4)); break;
            default: line(); break;
        }
    }

    private void look(int what) {
        same("look(" + what + ")", house.look(what), model.look(what));
    }

    private void finding(int i, int what) {
        same("finding(" + i + ", " + what + ")", house.finding(i, what), model.finding(i, what));
    }

    /** Mostly one that is there. */
    private void find() {
        int i = someFinding();
        int rule = oneIn(5) ? between(-1, 5) : model.finding(i, 0);
        int id = oneIn(5) ? between(-1, model.look(7)) : model.finding(i, 3);
        same("find(" + rule + ", " + id + ")", house.find(rule, id), model.find(rule, id));
    }

    private void since(int c, int what) {
        same("since(" + c + ", " + what + ")", house.since(c, what), model.since(c, what));
    }

    private void log(int i, int what) {
        same("log(" + i + ", " + what + ")", house.log(i, what), model.log(i, what));
    }

    private void line() {
        int file = oneIn(9) ? between(-1, 6) : random.nextInt(6);
        int at = between(-1, model.isFile(file) ? model.size(file) : 0);
        int what = between(oneIn(9) ? -1 : 0, oneIn(9) ? 2 : 1);
        same("line(" + file + ", " + at + ", " + what + ")", house.line(file, at, what), model.line(file, at, what));
    }
}

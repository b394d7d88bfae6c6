import java.util.ArrayList;
import java.util.HashMap;
import java.util.List;
import java.util.Map;
import java.util.Random;

/**
 * Long seeded runs against a slow model that works all findings of all files again at every change, so that
 * a finding lost between, or a file that should have been worked again and was not, is seen.
 */
public final class ModelTest {
    private static final int RUNS = 400;
    private static final int CHANGES_IN_RUN = 120;

    public static void main(String[] args) {
        Due due = new Due();
        for (int run = 0; run < RUNS; run++) {
            new Run(due, run).go();
        }
        due.close();
    }

    private static final class Line {
        final int id;
        int value;

        Line(int id, int value) {
            this.id = id;
            this.value = value;
        }

        boolean is(int kind, int n) {
            return value == 32 * kind + n;
        }

        int kind() {
            return value / 32;
        }

        int n() {
            return value % 32;
        }
    }

    private static final class Finding {
        int rule;
        int file;
        int at;
        int id;
        int since;
        int silencedOn;
        int days;
        int reason = -1;
    }

    private static final class Model {
        final List<List<Line>> files = new ArrayList<>();
        final List<Integer> tape = new ArrayList<>();
        List<Finding> findings = new ArrayList<>();
        final List<int[]> log = new ArrayList<>();
        int changes;
        int day;
        int ids;
        int bad;
        int worked;

        Model() {
            for (int f = 0; f < 6; f++) {
                files.add(new ArrayList<>());
            }
        }

        boolean hasDef(int file, int n) {
            return files.get(file).stream().anyMatch(line -> line.is(1, n));
        }

        boolean imports(int file, int other) {
            return files.get(file).stream().anyMatch(line -> line.kind() == 5 && line.n() % 6 == other);
        }

        boolean isFinding(int file, int at) {
            List<Line> lines = files.get(file);
            Line line = lines.get(at);
            int n = line.n();
            switch (line.kind()) {
                case 0:
                    return (bad >> n & 1) == 1;
                case 1:
                    return lines.subList(0, at).stream().anyMatch(other -> other.is(1, n));
                case 2:
                    for (int f = 0; f < 6; f++) {
                        if ((f == file || imports(file, f)) && hasDef(f, n)) {
                            return false;
                        }
                    }
                    return true;
                case 3:
                    return !closes(lines, at + 1, 1);
                case 4:
                    return !opens(lines, at - 1, 1);
                case 5:
                    return n % 6 == file || !servesFrom(file, n % 6);
                default:
                    return false;
            }
        }

        boolean servesFrom(int file, int other) {
            return files.get(file).stream().anyMatch(line -> line.kind() == 2 && hasDef(other, line.n()));
        }

        /** Whether the OPEN ahead of from is closed: the first CLOSE behind it that no OPEN between takes. */
        static boolean closes(List<Line> lines, int from, int depth) {
            for (int k = from; k < lines.size() && depth > 0; k++) {
                depth += lines.get(k).kind() == 3 ? 1 : lines.get(k).kind() == 4 ? -1 : 0;
            }
            return depth == 0;
        }

        static boolean opens(List<Line> lines, int from, int depth) {
            for (int k = from; k >= 0 && depth > 0; k--) {
                depth += lines.get(k).kind() == 4 ? 1 : lines.get(k).kind() == 3 ? -1 : 0;
            }
            return depth == 0;
        }

        int defs(int file) {
            int set = 0;
            for (int n = 0; n < 32; n++) {
                set |= hasDef(file, n) ? 1 << n : 0;
            }
            return set;
        }

        void changed(int file, int defsBefore) {
            int set = 1 << file;
            for (int f = 0; f < 6; f++) {
                set |= defs(file) != defsBefore && imports(f, file) ? 1 << f : 0;
            }
            renew(set);
        }

        void renew(int set) {
            changes++;
            worked = set;
            Map<String, Finding> before = new HashMap<>();
            for (Finding old : findings) {
                before.put(old.rule + "/" + old.id, old);
            }
            List<Finding> fresh = new ArrayList<>();
            for (int f = 0; f < 6; f++) {
                for (int at = 0; at < files.get(f).size(); at++) {
                    if (isFinding(f, at)) {
                        fresh.add(same(before, f, at));
                    }
                }
            }
            for (Finding old : findings) {
                if (before.containsKey(old.rule + "/" + old.id)) {
                    log.add(0, new int[] {old.rule, old.id, old.since, changes});
                }
            }
            findings = fresh;
        }

        Finding same(Map<String, Finding> before, int file, int at) {
            Line line = files.get(file).get(at);
            int rule = new int[] {3, 1, 0, 2, 2, 4}[line.kind()];
            Finding finding = before.remove(rule + "/" + line.id);
            if (finding == null) {
                finding = new Finding();
                finding.since = changes;
            }
            finding.rule = rule;
            finding.file = file;
            finding.at = at;
            finding.id = line.id;
            return finding;
        }

        boolean silenced(Finding finding) {
            return finding.days > 0 && day < finding.silencedOn + finding.days;
        }

        /** The document's words one by one: take both, else drop what was, else make what is a new one. */
        int load(int file) {
            List<Integer> is = new ArrayList<>(tape);
            tape.clear();
            if (file < 0 || file > 5 || is.size() > 32) {
                return -1;
            }
            int defsBefore = defs(file);
            List<Line> was = files.get(file);
            List<Line> told = new ArrayList<>();
            int kept = 0;
            int i = 0;
            int j = 0;
            while (j < is.size()) {
                int best = common(was, i, is, j);
                if (i < was.size() && was.get(i).value == is.get(j) && 1 + common(was, i + 1, is, j + 1) == best) {
                    told.add(was.get(i++));
                    j++;
                    kept++;
                } else if (i < was.size() && common(was, i + 1, is, j) == best) {
                    i++;
                } else {
                    told.add(new Line(ids++, is.get(j++)));
                }
            }
            files.set(file, told);
            changed(file, defsBefore);
            return kept;
        }

        static int common(List<Line> was, int from, List<Integer> is, int start) {
            int[] ahead = new int[is.size() + 1];
            for (int i = from; i < was.size(); i++) {
                int[] row = new int[is.size() + 1];
                for (int j = start; j < is.size(); j++) {
                    int both = was.get(i).value == is.get(j) ? ahead[j] + 1 : 0;
                    row[j + 1] = Math.max(both, Math.max(ahead[j + 1], row[j]));
                }
                ahead = row;
            }
            return ahead[is.size()];
        }
    }

    private static final class Run {
        final Due due;
        final int number;
        final Random random;
        final FindingHouse house = new FindingHouse();
        final Model model = new Model();
        final int numbers;

        Run(Due due, int number) {
            this.due = due;
            this.number = number;
            this.random = new Random(number);
            this.numbers = 1 + random.nextInt(number % 3 == 0 ? 32 : 4);
        }

        void go() {
            for (int step = 0; step < CHANGES_IN_RUN; step++) {
                step();
                compare();
            }
        }

        void same(String call, long got, long want) {
            due.same("run " + number + ": " + call, got, want);
        }

        int someLine() {
            return 32 * random.nextInt(random.nextInt(4) == 0 ? 8 : 6) + random.nextInt(numbers);
        }

        void step() {
            int file = random.nextInt(20) == 0 ? random.nextInt(10) - 2 : random.nextInt(6);
            boolean isFile = file >= 0 && file < 6;
            int size = isFile ? model.files.get(file).size() : 0;
            int at = random.nextInt(size + 2) - (random.nextInt(9) == 0 ? 1 : 0);
            int line = random.nextInt(20) == 0 ? random.nextInt(400) - 70 : someLine();
            switch (random.nextInt(9)) {
                case 0: case 1: case 2: put(file, isFile, at, line); break;
                case 3: cut(file, at, at >= 0 && at < size); break;
                case 4: change(file, at, line, at >= 0 && at < size); break;
                case 5: feedAndLoad(file, isFile); break;
                case 6: bad(); break;
                case 7: same("day()", house.day(), ++model.day); break;
                default: silenceOrSpeak(); break;
            }
        }

        void put(int file, boolean isFile, int at, int line) {
            boolean done = isFile && line >= 0 && line < 256 && at >= 0 && at <= model.files.get(file).size()
                && model.files.get(file).size() < 32;
            int want = -1;
            if (done) {
                int defs = model.defs(file);
                want = model.ids++;
                model.files.get(file).add(at, new Line(want, line));
                model.changed(file, defs);
            }
            same("put(" + file + ", " + at + ", " + line + ")", house.put(file, at, line), want);
        }

        void cut(int file, int at, boolean done) {
            if (done) {
                int defs = model.defs(file);
                model.files.get(file).remove(at);
                model.changed(file, defs);
            }
            same("cut(" + file + ", " + at + ")", house.cut(file, at) ? 1 : 0, done ? 1 : 0);
        }

        void change(int file, int at, int line, boolean isLine) {
            boolean done = isLine && line >= 0 && line < 256 && model.files.get(file).get(at).value != line;
            if (done) {
                int defs = model.defs(file);
                model.files.get(file).get(at).value = line;
                model.changed(file, defs);
            }
            same("change(" + file + ", " + at + ", " + line + ")", house.change(file, at, line) ? 1 : 0, done ? 1 : 0);
        }

        void feedAndLoad(int file, boolean isFile) {
            List<Integer> wish = new ArrayList<>();
            if (isFile) {
                model.files.get(file).forEach(line -> wish.add(line.value));
            }
            for (int edits = random.nextInt(8); edits > 0; edits--) {
                int at = random.nextInt(wish.size() + 1);
                if (random.nextBoolean()) {
                    wish.add(at, someLine());
                } else if (at < wish.size()) {
                    wish.add(random.nextInt(wish.size()), wish.remove(at));
                }
            }
            while (random.nextInt(3) > 0 && !wish.isEmpty()) {
                wish.remove(random.nextInt(wish.size()));
            }
            while (random.nextInt(12) == 0 || random.nextInt(40) == 0) {
                wish.add(someLine());
            }
            int[] bytes = new int[Math.min(40, wish.size())];
            for (int k = 0; k < bytes.length; k++) {
                bytes[k] = wish.get(k);
                model.tape.add(bytes[k]);
            }
            Due.fill(house, bytes);
            int want = model.load(file);
            same("load(" + file + ")", house.load(file), want);
        }

        void bad() {
            int set = random.nextInt(5) == 0 ? random.nextInt() : model.bad ^ 1 << random.nextInt(numbers);
            set = random.nextInt(6) == 0 ? model.bad : set;
            boolean done = set != model.bad;
            if (done) {
                int worked = 0;
                for (int f = 0; f < 6; f++) {
                    for (Line line : model.files.get(f)) {
                        worked |= line.kind() == 0 && ((set ^ model.bad) >> line.n() & 1) == 1 ? 1 << f : 0;
                    }
                }
                model.bad = set;
                model.renew(worked);
            }
            same("bad(" + set + ")", house.bad(set) ? 1 : 0, done ? 1 : 0);
        }

        void silenceOrSpeak() {
            int i = random.nextInt(model.findings.size() + 2) - 1;
            boolean there = i >= 0 && i < model.findings.size();
            if (random.nextInt(3) == 0) {
                boolean done = there && model.silenced(model.findings.get(i));
                if (done) {
                    model.findings.get(i).days = 0;
                }
                same("speak(" + i + ")", house.speak(i) ? 1 : 0, done ? 1 : 0);
                return;
            }
            int days = random.nextInt(4) == 0 ? random.nextInt(110) - 5 : 1 + random.nextInt(6);
            int reason = random.nextInt(110) - 5;
            boolean done = there && days >= 1 && days <= 99 && reason >= 0 && reason <= 99;
            if (done) {
                Finding finding = model.findings.get(i);
                finding.silencedOn = model.day;
                finding.days = days;
                finding.reason = reason;
            }
            same("silence(" + i + ", " + days + ", " + reason + ")", house.silence(i, days, reason) ? 1 : 0, done ? 1 : 0);
        }

        void compare() {
            compareLooks();
            compareFindings();
            for (int i = 0; i < 62; i++) {
                for (int what = 0; what < 4; what++) {
                    boolean there = i < 60 && i < model.log.size();
                    same("log(" + i + ", " + what + ")", house.log(i, what), there ? model.log.get(i)[what] : -1);
                }
            }
            for (int f = 0; f < 6; f++) {
                for (int at = 0; at < 33; at++) {
                    Line line = at < model.files.get(f).size() ? model.files.get(f).get(at) : null;
                    same("line(" + f + ", " + at + ", 0)", house.line(f, at, 0), line == null ? -1 : line.value);
                    same("line(" + f + ", " + at + ", 1)", house.line(f, at, 1), line == null ? -1 : line.id);
                }
            }
        }

        void compareLooks() {
            int silenced = 0;
            int lines = 0;
            for (Finding finding : model.findings) {
                silenced += model.silenced(finding) ? 1 : 0;
            }
            for (List<Line> file : model.files) {
                lines += file.size();
            }
            int[] want = {model.changes, model.day, model.findings.size(), silenced, Math.min(60, model.log.size()),
                model.worked, lines, model.ids, model.bad};
            for (int what = 0; what < want.length; what++) {
                same("look(" + what + ")", house.look(what), want[what]);
            }
        }

        void compareFindings() {
            int c = random.nextInt(model.changes + 2) - 1;
            int after = 0;
            int heard = 0;
            for (int i = 0; i < model.findings.size(); i++) {
                Finding finding = model.findings.get(i);
                boolean silenced = model.silenced(finding);
                int[] want = {finding.rule, finding.file, finding.at, finding.id, finding.since, silenced ? 1 : 0,
                    silenced ? finding.silencedOn + finding.days - model.day : 0, silenced ? finding.reason : -1, -1};
                for (int what = 0; what < want.length; what++) {
                    same("finding(" + i + ", " + what + ")", house.finding(i, what), want[what]);
                }
                same("find(" + finding.rule + ", " + finding.id + ")", house.find(finding.rule, finding.id), i);
                after += finding.since > c ? 1 : 0;
                heard += finding.since > c && !silenced ? 1 : 0;
            }
            same("finding past the last", house.finding(model.findings.size(), 0), -1);
            same("since(" + c + ", 0)", house.since(c, 0), after);
            same("since(" + c + ", 1)", house.since(c, 1), heard);
        }
    }
}

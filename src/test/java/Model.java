import java.util.ArrayList;
import java.util.HashMap;
import java.util.List;
import java.util.Map;

/**
 * A slow FindingHouse in the document's own words: it works all findings of all files again at every change, so that a
 * finding lost between, or a file that should have been worked again and was not, is seen beside it.
 */
final class Model {
    private static final int[] RULE_OF_KIND = {3, 1, 0, 2, 2, 4};

    private final List<List<Line>> files = new ArrayList<>();
    private final List<Integer> tape = new ArrayList<>();
    private final List<int[]> log = new ArrayList<>();
    private List<Finding> findings = new ArrayList<>();
    private int changes;
    private int day;
    private int ids;
    private int bad;
    private int worked;

    private static final class Line {
        final int id;
        int value;

        Line(int id, int value) {
            this.id = id;
            this.value = value;
        }

        boolean is(int kind, int n) {
            return value == 32 * kind + n;
        }

        int kind() {
            return value / 32;
        }

        int n() {
            return value % 32;
        }
    }

    private static final class Finding {
        int rule;
        int file;
        int at;
        int id;
        int since;
        int silencedOn;
        int days;
        int reason;
    }

    Model() {
        for (int f = 0; f < 6; f++) {
            files.add(new ArrayList<>());
        }
    }

    int put(int file, int at, int line) {
        if (!isFile(file) || at < 0 || at > size(file) || line < 0 || line > 255 || size(file) >= 32) {
            return -1;
        }
        int before = defs(file);
        files.get(file).add(at, new Line(ids++, line));
        changed(file, before);
        return ids - 1;
    }

    boolean cut(int file, int at) {
        if (!isLine(file, at)) {
            return false;
        }
        int before = defs(file);
        files.get(file).remove(at);
        changed(file, before);
        return true;
    }

    boolean change(int file, int at, int line) {
        if (!isLine(file, at) || line < 0 || line > 255 || files.get(file).get(at).value == line) {
            return false;
        }
        int before = defs(file);
        files.get(file).get(at).value = line;
        changed(file, before);
        return true;
    }

    int feed(int... numbers) {
        if (tape.size() + 20 > 40) {
            return -1;
        }
        for (int number : numbers) {
            for (byte b : java.nio.ByteBuffer.allocate(4).putInt(number).array()) {
                tape.add(Byte.toUnsignedInt(b));
            }
        }
        return tape.size();
    }

    boolean end(int n) {
        if (n < 0 || n > tape.size()) {
            return false;
        }
        tape.subList(n, tape.size()).clear();
        return true;
    }

    /** The document's words one by one: take both, else drop what was, else make what is a new one. */
    int load(int file) {
        List<Integer> is = new ArrayList<>(tape);
        tape.clear();
        if (!isFile(file) || is.size() > 32) {
            return -1;
        }
        int before = defs(file);
        List<Line> was = files.get(file);
        List<Line> told = new ArrayList<>();
        int kept = 0;
        int i = 0;
        while (told.size() < is.size()) {
            int j = told.size();
            int longest = common(was, i, is, j);
            boolean alike = i < was.size() && was.get(i).value == is.get(j);
            if (alike && 1 + common(was, i + 1, is, j + 1) == longest) {
                told.add(was.get(i++));
                kept++;
            } else if (i < was.size() && common(was, i + 1, is, j) == longest) {
                i++;
            } else {
                told.add(new Line(ids++, is.get(j)));
            }
        }
        files.set(file, told);
        changed(file, before);
        return kept;
    }

    boolean bad(int set) {
        if (set == bad) {
            return false;
        }
        int turned = set ^ bad;
        int textsTurned = 0;
        for (int f = 0; f < 6; f++) {
            boolean has = files.get(f).stream().anyMatch(line -> line.kind() == 0 && (turned >> line.n() & 1) == 1);
            textsTurned |= has ? 1 << f : 0;
        }
        bad = set;
        renew(textsTurned);
        return true;
    }

    int day() {
        return day == 10000 ? -1 : ++day;
    }

    int look(int what) {
        int silenced = (int) findings.stream().filter(this::isSilenced).count();
        int lines = files.stream().mapToInt(List::size).sum();
        int[] answers = {changes, day, findings.size(), silenced, log.size(), worked, lines, ids, bad};
        return pick(answers, what);
    }

    int line(int file, int at, int what) {
        if (!isLine(file, at)) {
            return -1;
        }
        Line line = files.get(file).get(at);
        return pick(new int[] {line.value, line.id}, what);
    }

    int finding(int i, int what) {
        if (!isFinding(i)) {
            return -1;
        }
        Finding f = findings.get(i);
        boolean silenced = isSilenced(f);
        int still = silenced ? f.silencedOn + f.days - day : 0;
        int[] answers = {f.rule, f.file, f.at, f.id, f.since, silenced ? 1 : 0, still, silenced ? f.reason : -1};
        return pick(answers, what);
    }

    int find(int rule, int id) {
        for (int i = 0; i < findings.size(); i++) {
            if (findings.get(i).rule == rule && findings.get(i).id == id) {
                return i;
            }
        }
        return -1;
    }

    boolean silence(int i, int days, int reason) {
        if (!isFinding(i) || days < 1 || days > 99 || reason < 0 || reason > 99) {
            return false;
        }
        Finding finding = findings.get(i);
        finding.silencedOn = day;
        finding.days = days;
        finding.reason = reason;
        return true;
    }

    boolean speak(int i) {
        if (!isFinding(i) || !isSilenced(findings.get(i))) {
            return false;
        }
        findings.get(i).days = 0;
        return true;
    }

    int since(int c, int what) {
        int after = 0;
        int heard = 0;
        for (Finding finding : findings) {
            after += finding.since > c ? 1 : 0;
            heard += finding.since > c && !isSilenced(finding) ? 1 : 0;
        }
        return pick(new int[] {after, heard}, what);
    }

    int log(int i, int what) {
        return i >= 0 && i < log.size() ? pick(log.get(i), what) : -1;
    }

    boolean isFile(int file) {
        return file >= 0 && file <= 5;
    }

    int size(int file) {
        return files.get(file).size();
    }

    int[] bytes(int file) {
        return files.get(file).stream().mapToInt(line -> line.value).toArray();
    }

    int tapeSize() {
        return tape.size();
    }

    private static int pick(int[] answers, int what) {
        return what >= 0 && what < answers.length ? answers[what] : -1;
    }

    private boolean isLine(int file, int at) {
        return isFile(file) && at >= 0 && at < size(file);
    }

    private boolean isFinding(int i) {
        return i >= 0 && i < findings.size();
    }

    private boolean isSilenced(Finding finding) {
        return day < finding.silencedOn + finding.days;
    }

    private boolean hasDef(int file, int n) {
        return files.get(file).stream().anyMatch(line -> line.is(1, n));
    }

    private int defs(int file) {
        int set = 0;
        for (Line line : files.get(file)) {
            set |= line.kind() == 1 ? 1 << line.n() : 0;
        }
        return set;
    }

    private boolean imports(int file, int other) {
        return files.get(file).stream().anyMatch(line -> line.kind() == 5 && line.n() % 6 == other);
    }

    /** Whether the LINE has a FINDING of the one RULE that its KIND can have. */
    private boolean hasFinding(int file, int at) {
        List<Line> lines = files.get(file);
        int n = lines.get(at).n();
        switch (lines.get(at).kind()) {
            case 0: return (bad >> n & 1) == 1;
            case 1: return lines.subList(0, at).stream().anyMatch(other -> other.is(1, n));
            case 2: return !isServed(file, n);
            case 3: return !isClosed(lines, at);
            case 4: return !closesOne(lines, at);
            case 5: return n % 6 == file || lines.stream().noneMatch(l -> l.kind() == 2 && hasDef(n % 6, l.n()));
            default: return false;
        }
    }

    private boolean isServed(int file, int n) {
        for (int f = 0; f < 6; f++) {
            if ((f == file || imports(file, f)) && hasDef(f, n)) {
                return true;
            }
        }
        return false;
    }

    /** By the first CLOSE behind it that no OPEN between them takes. */
    private static boolean isClosed(List<Line> lines, int at) {
        int open = 1;
        for (int k = at + 1; k < lines.size() && open > 0; k++) {
            open += lines.get(k).kind() == 3 ? 1 : lines.get(k).kind() == 4 ? -1 : 0;
        }
        return open == 0;
    }

    private static boolean closesOne(List<Line> lines, int at) {
        int wanted = 1;
        for (int k = at - 1; k >= 0 && wanted > 0; k--) {
            wanted += lines.get(k).kind() == 4 ? 1 : lines.get(k).kind() == 3 ? -1 : 0;
        }
        return wanted == 0;
    }

    private void changed(int file, int defsBefore) {
        int set = 1 << file;
        for (int f = 0; f < 6; f++) {
            set |= defs(file) != defsBefore && imports(f, file) ? 1 << f : 0;
        }
        renew(set);
    }

    private void renew(int set) {
        changes++;
        worked = set;
        Map<Long, Finding> before = new HashMap<>();
        for (Finding old : findings) {
            before.put(key(old.rule, old.id), old);
        }
        List<Finding> fresh = new ArrayList<>();
        for (int f = 0; f < 6; f++) {
            for (int at = 0; at < size(f); at++) {
                if (hasFinding(f, at)) {
                    fresh.add(sameOrNew(before, f, at));
                }
            }
        }
        for (Finding old : findings) {
            if (before.containsKey(key(old.rule, old.id))) {
                log.add(0, new int[] {old.rule, old.id, old.since, changes});
            }
        }
        log.subList(Math.min(60, log.size()), log.size()).clear();
        findings = fresh;
    }

    private static long key(int rule, int id) {
        return 10L * id + rule;
    }

    private Finding sameOrNew(Map<Long, Finding> before, int file, int at) {
        Line line = files.get(file).get(at);
        int rule = RULE_OF_KIND[line.kind()];
        Finding finding = before.remove(key(rule, line.id));
        if (finding == null) {
            finding = new Finding();
            finding.since = changes;
        }
        finding.rule = rule;
        finding.file = file;
        finding.at = at;
        finding.id = line.id;
        return finding;
    }

    private static int common(List<Line> was, int from, List<Integer> is, int start) {
        int[] ahead = new int[is.size() + 1];
        for (int i = from; i < was.size(); i++) {
            int[] row = new int[is.size() + 1];
            for (int j = start; j < is.size(); j++) {
                int both = was.get(i).value == is.get(j) ? ahead[j] + 1 : 0;
                row[j + 1] = Math.max(both, Math.max(ahead[j + 1], row[j]));
            }
            ahead = row;
        }
        return ahead[is.size()];
    }
}

/**
 * Keeps a checker's findings fresh over six files of lines.
 *
 * <p>The words in capitals, and the promises, are those of the document (DOC.md). Every row is made
 * in a constructor and used again, so that no call after it makes an object. Sets (of numbers, FILES
 * or LINES) are the bits of an int, as none of them has more than 32 members.
 */
public final class FindingHouse {

    public static final int NONE = -1;

    private static final int FILES = 6;
    private static final int MOST_LINES = 32;
    private static final int RULES = 5;
    private static final int FED_BYTES = 20;
    private static final int TAPE_BYTES = 40;
    private static final int LOG_SIZE = 60;
    private static final int LAST_DAY = 10000;
    private static final int MOST_SILENT_DAYS = 99;
    private static final int LAST_REASON = 99;

    private static final int TEXT = 0;
    private static final int DEF = 1;
    private static final int USE = 2;
    private static final int OPEN = 3;
    private static final int CLOSE = 4;
    private static final int IMPORT = 5;

    private final Sheet[] sheets;
    private final Tape tape;
    private final Retelling retelling;
    private final Checker checker;
    private final EndedLog ended;
    private int changes;
    private int today;
    private int idsGiven;
    private int badNumbers;
    private int workedFiles;

    public FindingHouse() {
        sheets = new Sheet[FILES];
        for (int f = 0; f < FILES; f++) {
            sheets[f] = new Sheet();
        }
        tape = new Tape();
        retelling = new Retelling();
        checker = new Checker();
        ended = new EndedLog();
    }

    public int put(int file, int at, int line) {
        if (!isFile(file) || !isByte(line) || !sheets[file].takesLine(at)) {
            return NONE;
        }
        int defsBefore = sheets[file].numbersOf(DEF);
        int id = idsGiven;
        idsGiven++;
        sheets[file].insert(at, line, id);
        settle(file, defsBefore);
        return id;
    }

    public boolean cut(int file, int at) {
        if (!isLine(file, at)) {
            return false;
        }
        int defsBefore = sheets[file].numbersOf(DEF);
        sheets[file].remove(at);
        settle(file, defsBefore);
        return true;
    }

    public boolean change(int file, int at, int line) {
        if (!isLine(file, at) || !isByte(line) || sheets[file].byteAt(at) == line) {
            return false;
        }
        int defsBefore = sheets[file].numbersOf(DEF);
        sheets[file].replace(at, line);
        settle(file, defsBefore);
        return true;
    }

    public int feed(int a, int b, int c, int d, int e) {
        if (tape.size() + FED_BYTES > TAPE_BYTES) {
            return NONE;
        }
        tape.append(a);
        tape.append(b);
        tape.append(c);
        tape.append(d);
        tape.append(e);
        return tape.size();
    }

    public boolean end(int n) {
        if (n < 0 || n > tape.size()) {
            return false;
        }
        tape.shorten(n);
        return true;
    }

    public int load(int file) {
        int lines = tape.size();
        if (!isFile(file) || lines > MOST_LINES) {
            // "nothing ELSE is done": the TAPE is empty then all the same.
            tape.shorten(0);
            return NONE;
        }
        int defsBefore = sheets[file].numbersOf(DEF);
        int kept = retelling.match(sheets[file], tape, idsGiven);
        idsGiven += lines - kept;
        sheets[file].retell(tape, retelling);
        tape.shorten(0);
        settle(file, defsBefore);
        return kept;
    }

    public boolean bad(int set) {
        if (set == badNumbers) {
            return false;
        }
        int turned = set ^ badNumbers;
        badNumbers = set;
        int files = 0;
        for (int f = 0; f < FILES; f++) {
            if ((sheets[f].numbersOf(TEXT) & turned) != 0) {
                files |= 1 << f;
            }
        }
        work(files);
        return true;
    }

    public int day() {
        if (today >= LAST_DAY) {
            return NONE;
        }
        today++;
        return today;
    }

    public int look(int what) {
        switch (what) {
            case 0: return changes;
            case 1: return today;
            case 2: return findingsAhead(FILES);
            case 3: return countSilenced();
            case 4: return ended.size();
            case 5: return workedFiles;
            case 6: return countLines();
            case 7: return idsGiven;
            case 8: return badNumbers;
            default: return NONE;
        }
    }

    public int line(int file, int at, int what) {
        if (!isLine(file, at)) {
            return NONE;
        }
        switch (what) {
            case 0: return sheets[file].byteAt(at);
            case 1: return sheets[file].idAt(at);
            default: return NONE;
        }
    }

    public int finding(int i, int what) {
        int file = fileOfFinding(i);
        if (file == NONE) {
            return NONE;
        }
        FindingRow row = sheets[file].findings();
        int place = i - findingsAhead(file);
        switch (what) {
            case 0: return row.ruleAt(place);
            case 1: return file;
            case 2: return row.lineAt(place);
            case 3: return row.idAt(place);
            case 4: return row.sinceAt(place);
            case 5: return row.isSilenced(place, today) ? 1 : 0;
            case 6: return row.daysLeft(place, today);
            case 7: return row.reasonAt(place, today);
            default: return NONE;
        }
    }

    public int find(int rule, int id) {
        for (int f = 0; f < FILES; f++) {
            int place = sheets[f].findings().placeOf(rule, id);
            if (place != NONE) {
                return findingsAhead(f) + place;
            }
        }
        return NONE;
    }

    public boolean silence(int i, int days, int reason) {
        int file = fileOfFinding(i);
        boolean lasts = days >= 1 && days <= MOST_SILENT_DAYS;
        boolean isReason = reason >= 0 && reason <= LAST_REASON;
        if (file == NONE || !lasts || !isReason) {
            return false;
        }
        sheets[file].findings().hush(i - findingsAhead(file), today + days, reason);
        return true;
    }

    public boolean speak(int i) {
        int file = fileOfFinding(i);
        if (file == NONE) {
            return false;
        }
        FindingRow row = sheets[file].findings();
        int place = i - findingsAhead(file);
        if (!row.isSilenced(place, today)) {
            return false;
        }
        row.unhush(place);
        return true;
    }

    public int since(int c, int what) {
        if (what != 0 && what != 1) {
            return NONE;
        }
        int count = 0;
        for (int f = 0; f < FILES; f++) {
            count += sheets[f].findings().countAfter(c, what == 1, today);
        }
        return count;
    }

    public int log(int i, int what) {
        if (i < 0 || i >= ended.size()) {
            return NONE;
        }
        int place = ended.placeOf(i);
        switch (what) {
            case 0: return ended.ruleAt(place);
            case 1: return ended.idAt(place);
            case 2: return ended.sinceAt(place);
            case 3: return ended.endAt(place);
            default: return NONE;
        }
    }

    private static boolean isFile(int file) {
        return file >= 0 && file < FILES;
    }

    private static boolean isByte(int line) {
        return line >= 0 && line <= 255;
    }

    private boolean isLine(int file, int at) {
        return isFile(file) && sheets[file].hasLine(at);
    }

    private static boolean has(int set, int member) {
        return ((set >>> member) & 1) == 1;
    }

    /** The CHANGE of one FILE reaches those that IMPORT it only through its set of DEFS. */
    private void settle(int file, int defsBefore) {
        int files = 1 << file;
        if (sheets[file].numbersOf(DEF) != defsBefore) {
            files |= importersOf(file);
        }
        work(files);
    }

    private int importersOf(int file) {
        int importers = 0;
        for (int f = 0; f < FILES; f++) {
            if (has(sheets[f].importedFiles(), file)) {
                importers |= 1 << f;
            }
        }
        return importers;
    }

    private void work(int files) {
        changes++;
        workedFiles = files;
        for (int f = 0; f < FILES; f++) {
            if (has(files, f)) {
                checker.check(sheets, f, badNumbers);
                sheets[f].renewFindings(checker, changes, ended);
            }
        }
    }

    private int findingsAhead(int file) {
        int count = 0;
        for (int f = 0; f < file && f < FILES; f++) {
            count += sheets[f].findings().size();
        }
        return count;
    }

    private int fileOfFinding(int i) {
        if (i < 0) {
            return NONE;
        }
        int left = i;
        for (int f = 0; f < FILES; f++) {
            int count = sheets[f].findings().size();
            if (left < count) {
                return f;
            }
            left -= count;
        }
        return NONE;
    }

    private int countSilenced() {
        int count = 0;
        for (int f = 0; f < FILES; f++) {
            count += sheets[f].findings().countSilenced(today);
        }
        return count;
    }

    private int countLines() {
        int count = 0;
        for (int f = 0; f < FILES; f++) {
            count += sheets[f].size();
        }
        return count;
    }

    /** A FILE: its LINES, and the FINDINGS at them. */
    private static final class Sheet {
        private int count;
        private final int[] bytes = new int[MOST_LINES];
        private final int[] ids = new int[MOST_LINES];
        private FindingRow row = new FindingRow();
        private FindingRow spareRow = new FindingRow();

        int size() {
            return count;
        }

        boolean hasLine(int at) {
            return at >= 0 && at < count;
        }

        boolean takesLine(int at) {
            return at >= 0 && at <= count && count < MOST_LINES;
        }

        int byteAt(int at) {
            return bytes[at];
        }

        int idAt(int at) {
            return ids[at];
        }

        int kindAt(int at) {
            return bytes[at] >> 5;
        }

        int numberAt(int at) {
            return bytes[at] & 31;
        }

        FindingRow findings() {
            return row;
        }

        void insert(int at, int line, int id) {
            for (int k = count; k > at; k--) {
                bytes[k] = bytes[k - 1];
                ids[k] = ids[k - 1];
            }
            bytes[at] = line;
            ids[at] = id;
            count++;
        }

        void remove(int at) {
            count--;
            for (int k = at; k < count; k++) {
                bytes[k] = bytes[k + 1];
                ids[k] = ids[k + 1];
            }
        }

        void replace(int at, int line) {
            bytes[at] = line;
        }

        void retell(Tape told, Retelling matched) {
            count = told.size();
            for (int k = 0; k < count; k++) {
                bytes[k] = told.byteAt(k);
                ids[k] = matched.idAt(k);
            }
        }

        /** The set of the numbers n at LINES of a KIND. */
        int numbersOf(int kind) {
            int numbers = 0;
            for (int k = 0; k < count; k++) {
                if (kindAt(k) == kind) {
                    numbers |= 1 << numberAt(k);
                }
            }
            return numbers;
        }

        int importedFiles() {
            int files = 0;
            for (int k = 0; k < count; k++) {
                if (kindAt(k) == IMPORT) {
                    files |= 1 << (numberAt(k) % FILES);
                }
            }
            return files;
        }

        /** What has ENDED goes to the LOG in the order that it had ahead of the CHANGE. */
        void renewFindings(Checker checked, int change, EndedLog log) {
            FindingRow fresh = spareRow;
            fresh.clear();
            for (int k = 0; k < count; k++) {
                for (int rule = 0; rule < RULES; rule++) {
                    if (has(checked.linesOf(rule), k)) {
                        fresh.add(rule, k, ids[k], change);
                        fresh.takeOver(row);
                    }
                }
            }
            row.logEnded(fresh, change, log);
            spareRow = row;
            row = fresh;
        }
    }

    /** The FINDINGS of one FILE; 32 are enough, as a LINE has one KIND, and a KIND one RULE. */
    private static final class FindingRow {
        private int count;
        private final int[] rules = new int[MOST_LINES];
        private final int[] lines = new int[MOST_LINES];
        private final int[] ids = new int[MOST_LINES];
        private final int[] sinces = new int[MOST_LINES];
        private final int[] untils = new int[MOST_LINES];
        private final int[] reasons = new int[MOST_LINES];

        int size() {
            return count;
        }

        int ruleAt(int i) {
            return rules[i];
        }

        int lineAt(int i) {
            return lines[i];
        }

        int idAt(int i) {
            return ids[i];
        }

        int sinceAt(int i) {
            return sinces[i];
        }

        boolean isSilenced(int i, int today) {
            return untils[i] > today;
        }

        int daysLeft(int i, int today) {
            return isSilenced(i, today) ? untils[i] - today : 0;
        }

        int reasonAt(int i, int today) {
            return isSilenced(i, today) ? reasons[i] : NONE;
        }

        void hush(int i, int until, int reason) {
            untils[i] = until;
            reasons[i] = reason;
        }

        void unhush(int i) {
            untils[i] = 0;
        }

        void clear() {
            count = 0;
        }

        void add(int rule, int line, int id, int since) {
            if (count >= MOST_LINES) {
                return;
            }
            rules[count] = rule;
            lines[count] = line;
            ids[count] = id;
            sinces[count] = since;
            untils[count] = 0;
            reasons[count] = NONE;
            count++;
        }

        /** The last FINDING, if it was there already, is the same with all that was said of it. */
        void takeOver(FindingRow before) {
            int last = count - 1;
            if (last < 0) {
                return;
            }
            int old = before.placeOf(rules[last], ids[last]);
            if (old != NONE) {
                sinces[last] = before.sinces[old];
                untils[last] = before.untils[old];
                reasons[last] = before.reasons[old];
            }
        }

        int placeOf(int rule, int id) {
            for (int k = 0; k < count; k++) {
                if (rules[k] == rule && ids[k] == id) {
                    return k;
                }
            }
            return NONE;
        }

        void logEnded(FindingRow after, int change, EndedLog log) {
            for (int k = 0; k < count; k++) {
                if (after.placeOf(rules[k], ids[k]) == NONE) {
                    log.add(rules[k], ids[k], sinces[k], change);
                }
            }
        }

        int countSilenced(int today) {
            int silenced = 0;
            for (int k = 0; k < count; k++) {
                if (isSilenced(k, today)) {
                    silenced++;
                }
            }
            return silenced;
        }

        int countAfter(int change, boolean heardAlone, int today) {
            int after = 0;
            for (int k = 0; k < count; k++) {
                boolean counts = !heardAlone || !isSilenced(k, today);
                if (sinces[k] > change && counts) {
                    after++;
                }
            }
            return after;
        }
    }

    /** Works out at which LINES of a FILE each RULE has a FINDING. */
    private static final class Checker {
        private final int[] found = new int[RULES];
        private final int[] openLines = new int[MOST_LINES];

        void check(Sheet[] sheets, int file, int badNumbers) {
            Sheet sheet = sheets[file];
            int known = sheet.numbersOf(DEF);
            int uses = sheet.numbersOf(USE);
            int imported = sheet.importedFiles();
            int useless = 1 << file;
            for (int f = 0; f < FILES; f++) {
                int defs = sheets[f].numbersOf(DEF);
                if (has(imported, f)) {
                    known |= defs;
                }
                if ((defs & uses) == 0) {
                    useless |= 1 << f;
                }
            }
            found[0] = linesWith(sheet, USE, ~known);
            found[1] = repeatedDefs(sheet);
            found[2] = unpaired(sheet);
            found[3] = linesWith(sheet, TEXT, badNumbers);
            found[4] = importsOf(sheet, useless);
        }

        int linesOf(int rule) {
            return found[rule];
        }

        private static int linesWith(Sheet sheet, int kind, int numbers) {
            int lines = 0;
            for (int k = 0; k < sheet.size(); k++) {
                if (sheet.kindAt(k) == kind && has(numbers, sheet.numberAt(k))) {
                    lines |= 1 << k;
                }
            }
            return lines;
        }

        private static int repeatedDefs(Sheet sheet) {
            int lines = 0;
            int met = 0;
            for (int k = 0; k < sheet.size(); k++) {
                if (sheet.kindAt(k) == DEF) {
                    int n = sheet.numberAt(k);
                    if (has(met, n)) {
                        lines |= 1 << k;
                    }
                    met |= 1 << n;
                }
            }
            return lines;
        }

        private int unpaired(Sheet sheet) {
            int lines = 0;
            int depth = 0;
            for (int k = 0; k < sheet.size(); k++) {
                int kind = sheet.kindAt(k);
                if (kind == OPEN) {
                    openLines[depth] = k;
                    depth++;
                } else if (kind == CLOSE && depth > 0) {
                    depth--;
                } else if (kind == CLOSE) {
                    lines |= 1 << k;
                }
            }
            for (int k = 0; k < depth; k++) {
                lines |= 1 << openLines[k];
            }
            return lines;
        }

        private static int importsOf(Sheet sheet, int files) {
            int lines = 0;
            for (int k = 0; k < sheet.size(); k++) {
                if (sheet.kindAt(k) == IMPORT && has(files, sheet.numberAt(k) % FILES)) {
                    lines |= 1 << k;
                }
            }
            return lines;
        }
    }

    /** The bytes that a FILE is to be told anew with. */
    private static final class Tape {
        private int count;
        private final int[] bytes = new int[TAPE_BYTES];

        int size() {
            return count;
        }

        int byteAt(int k) {
            return bytes[k];
        }

        void append(int number) {
            for (int shift = 24; shift >= 0 && count < TAPE_BYTES; shift -= 8) {
                bytes[count] = (number >>> shift) & 255;
                count++;
            }
        }

        void shorten(int n) {
            count = n;
        }
    }

    /** Knows the LINES of a FILE again in what it is told anew with. */
    private static final class Retelling {
        /** How long the longest common row is of the LINES that were from i on and those that are from j on. */
        private final int[][] longest = new int[MOST_LINES + 1][MOST_LINES + 1];
        private final int[] ids = new int[MOST_LINES];

        int idAt(int k) {
            return ids[k];
        }

        /** Settles the ID of each LINE that is, new ones from nextId on; how many are kept. */
        int match(Sheet was, Tape is, int nextId) {
            if (is.size() > MOST_LINES) {
                return 0;
            }
            measure(was, is);
            int kept = 0;
            int i = 0;
            for (int j = 0; j < is.size(); j++) {
                while (i < was.size() && isGone(was, is, i, j)) {
                    i++;
                }
                if (i < was.size() && was.byteAt(i) == is.byteAt(j)) {
                    ids[j] = was.idAt(i);
                    kept++;
                    i++;
                } else {
                    ids[j] = nextId + j - kept;
                }
            }
            return kept;
        }

        private boolean isGone(Sheet was, Tape is, int i, int j) {
            return was.byteAt(i) != is.byteAt(j) && longest[i + 1][j] == longest[i][j];
        }

        private void measure(Sheet was, Tape is) {
            // The borders are set too: an earlier, longer FILE may have left lengths there.
            for (int i = was.size(); i >= 0; i--) {
                for (int j = is.size(); j >= 0; j--) {
                    longest[i][j] = longestFrom(was, is, i, j);
                }
            }
        }

        private int longestFrom(Sheet was, Tape is, int i, int j) {
            if (i >= was.size() || j >= is.size()) {
                return 0;
            }
            if (was.byteAt(i) == is.byteAt(j)) {
                return 1 + longest[i + 1][j + 1];
            }
            return Math.max(longest[i + 1][j], longest[i][j + 1]);
        }
    }

    /** The LOG: a ring of the last FINDINGS that have ENDED. */
    private static final class EndedLog {
        private int count;
        private int next;
        private final int[] rules = new int[LOG_SIZE];
        private final int[] ids = new int[LOG_SIZE];
        private final int[] sinces = new int[LOG_SIZE];
        private final int[] ends = new int[LOG_SIZE];

        int size() {
            return count;
        }

        void add(int rule, int id, int since, int end) {
            rules[next] = rule;
            ids[next] = id;
            sinces[next] = since;
            ends[next] = end;
            next = next + 1 < LOG_SIZE ? next + 1 : 0;
            count = Math.min(count + 1, LOG_SIZE);
        }

        /** Where in the ring the i-th latest stands. */
        int placeOf(int i) {
            int place = next - 1 - i;
            return place >= 0 ? place : place + LOG_SIZE;
        }

        int ruleAt(int place) {
            return rules[place];
        }

        int idAt(int place) {
            return ids[place];
        }

        int sinceAt(int place) {
            return sinces[place];
        }

        int endAt(int place) {
            return ends[place];
        }
    }
}

import java.util.ArrayList;
import java.util.List;

/**
 * "Told anew, a FILE keeps the IDS of the longest row of LINES that it has in common with what it was": every pair of
 * short rows, against the sentence's own words, with the longest rows found by trying every choice of LINES.
 */
public final class ToldAnewTest {
    private static final int LONGEST = 4;
    private static final int LETTERS = 3;

    public static void main(String[] args) {
        Due due = new Due();
        List<int[]> rows = allRows();
        for (int[] was : rows) {
            for (int[] is : rows) {
                compare(due, was, is);
            }
        }
        severalLongestRows(due);
        full(due);
        due.close();
    }

    private static List<int[]> allRows() {
        List<int[]> rows = new ArrayList<>();
        rows.add(new int[0]);
        for (int k = 0; rows.get(k).length < LONGEST; k++) {
            for (int letter = 0; letter < LETTERS; letter++) {
                int[] longer = java.util.Arrays.copyOf(rows.get(k), rows.get(k).length + 1);
                longer[longer.length - 1] = letter;
                rows.add(longer);
            }
        }
        return rows;
    }

    private static void compare(Due due, int[] was, int[] is) {
        String pair = java.util.Arrays.toString(was) + " told anew " + java.util.Arrays.toString(is);
        FindingHouse house = new FindingHouse();
        Due.tell(house, 0, was);
        int[] ids = new int[is.length];
        int kept = keptByTheWords(was, is, ids);
        due.same(pair, Due.tell(house, 0, is), kept);
        for (int at = 0; at < is.length; at++) {
            due.same(pair + ", ID at " + at, house.line(0, at, 1), ids[at]);
            due.same(pair + ", byte at " + at, house.line(0, at, 0), is[at]);
        }
        due.same(pair + ", LINES", house.look(6), is.length);
        due.same(pair + ", IDS given", house.look(7), was.length + is.length - kept);
        due.same(pair + ", CHANGES", house.look(0), 2);
    }

    private static int keptByTheWords(int[] was, int[] is, int[] ids) {
        int i = 0;
        int kept = 0;
        for (int j = 0; j < is.length; ) {
            int longest = longestInCommon(was, i, is, j);
            boolean alike = i < was.length && was[i] == is[j];
            if (alike && 1 + longestInCommon(was, i + 1, is, j + 1) == longest) {
                ids[j++] = i++;
                kept++;
            } else if (i < was.length && longestInCommon(was, i + 1, is, j) == longest) {
                i++;
            } else {
                ids[j] = was.length + j - kept;
                j++;
            }
        }
        return kept;
    }

    /** Every choice of the LINES that were is tried: is it there, in its order, among those that are? */
    private static int longestInCommon(int[] was, int i, int[] is, int j) {
        int longest = 0;
        for (int choice = 0; choice < 1 << was.length - i; choice++) {
            int next = j;
            boolean isThere = true;
            for (int k = i; k < was.length; k++) {
                if ((choice >> k - i & 1) == 1) {
                    while (next < is.length && is[next] != was[k]) {
                        next++;
                    }
                    isThere &= next++ < is.length;
                }
            }
            longest = isThere ? Math.max(longest, Integer.bitCount(choice)) : longest;
        }
        return longest;
    }

    /** "of several so: from the front, ..". */
    private static void severalLongestRows(Due due) {
        // Either of 1 and 2 could be kept: the 1 that was goes, as a longest row is left without it.
        FindingHouse house = Houses.told(0, 1, 2);
        due.same("1 2 told 2 1", Due.tell(house, 0, 2, 1), 1);
        due.hasIds(house, 0, 1, 2);

        // Alike at the front: taken to be one, though the second 1 would do as well.
        house = Houses.told(0, 1, 1, 2);
        due.same("1 1 2 told 1 2", Due.tell(house, 0, 1, 2), 2);
        due.hasIds(house, 0, 0, 2);

        // The 1 that was may not go, so the 2 that is is a new one, though there was a 2.
        house = Houses.told(0, 1, 3, 2);
        due.same("1 3 2 told 2 1 3", Due.tell(house, 0, 2, 1, 3), 2);
        due.hasIds(house, 0, 3, 0, 1);
    }

    private static void full(Due due) {
        int[] was = new int[32];
        int[] is = new int[32];
        for (int k = 0; k < 32; k++) {
            was[k] = 224 + k;
            is[k] = 224 + (k + 31) % 32;
        }
        FindingHouse house = Houses.told(5, was);
        due.same("the last of 32 is the first now", Due.tell(house, 5, is), 31);
        due.same("it is a new one", house.line(5, 0, 1), 32);
        due.same("the first, moved", house.line(5, 1, 1), 0);
        due.same("the last but one, moved", house.line(5, 31, 1), 30);
        due.same("all as they are", Due.tell(house, 5, is), 32);
        due.same("the first of 32 is the last now", Due.tell(house, 5, was), 31);
        due.same("the next ID", house.line(5, 31, 1), 33);
        due.same("alone", Due.tell(house, 5, 255), 1);
        due.hasIds(house, 5, 33);
    }
}

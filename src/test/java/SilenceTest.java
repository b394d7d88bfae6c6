/** Promises 14, 15 and 16: silence, speak, since. */
public final class SilenceTest {
    public static void main(String[] args) {
        Due due = new Due();
        silences(due);
        endsAfterItsDays(due);
        refuses(due);
        speaks(due);
        endsWithTheFinding(due);
        movesWithTheFinding(due);
        countsSince(due);
        due.close();
    }

    private static FindingHouse twoFindings() {
        FindingHouse house = new FindingHouse();
        house.put(0, 0, Due.use(1));
        house.put(3, 0, Due.OPEN);
        return house;
    }

    private static void isSilenced(Due due, FindingHouse house, int i, int days, int reason) {
        due.same("finding(" + i + ", 5)", house.finding(i, 5), days > 0 ? 1 : 0);
        due.same("finding(" + i + ", 6)", house.finding(i, 6), days);
        due.same("finding(" + i + ", 7)", house.finding(i, 7), reason);
    }

    private static void silences(Due due) {
        FindingHouse house = twoFindings();
        due.holds("silence", house.silence(1, 99, 0));
        isSilenced(due, house, 0, 0, -1);
        isSilenced(due, house, 1, 99, 0);
        due.same("SILENCED", house.look(3), 1);
        due.holds("silence", house.silence(0, 1, 99));
        isSilenced(due, house, 0, 1, 99);
        due.same("SILENCED", house.look(3), 2);
        due.holds("anew", house.silence(1, 2, 50));
        isSilenced(due, house, 1, 2, 50);
        due.same("SILENCED", house.look(3), 2);
        due.same("no CHANGE", house.look(0), 2);
        due.same("FINDINGS", house.look(2), 2);
    }

    private static void endsAfterItsDays(Due due) {
        FindingHouse house = twoFindings();
        house.day();
        house.silence(0, 2, 6);
        house.silence(1, 1, 7);
        house.day();
        isSilenced(due, house, 0, 1, 6);
        isSilenced(due, house, 1, 0, -1);
        due.refused("speak", house.speak(1));
        house.silence(0, 2, 5);
        house.day();
        isSilenced(due, house, 0, 1, 5);
        house.day();
        isSilenced(due, house, 0, 0, -1);
        due.same("SILENCED", house.look(3), 0);
        house.put(0, 0, 255);
        isSilenced(due, house, 0, 0, -1);
        due.same("still the same FINDING", house.finding(0, 4), 1);
    }

    private static void refuses(Due due) {
        FindingHouse house = twoFindings();
        house.silence(0, 9, 9);
        int[][] wrong = {{-1, 1, 1}, {2, 1, 1}, {0, 0, 1}, {0, -1, 1}, {0, 100, 1}, {0, 1, -1}, {0, 1, 100},
            {Integer.MIN_VALUE, 1, 1}, {Integer.MAX_VALUE, 1, 1}, {0, Integer.MAX_VALUE, 1}, {0, 1, Integer.MIN_VALUE}};
        for (int[] w : wrong) {
            due.refused("silence(" + w[0] + ", " + w[1] + ", " + w[2] + ")", house.silence(w[0], w[1], w[2]));
        }
        isSilenced(due, house, 0, 9, 9);
        isSilenced(due, house, 1, 0, -1);
    }

    private static void speaks(Due due) {
        FindingHouse house = twoFindings();
        due.refused("speak of one not SILENCED", house.speak(0));
        house.silence(0, 3, 3);
        house.silence(1, 3, 3);
        due.holds("speak", house.speak(1));
        isSilenced(due, house, 1, 0, -1);
        isSilenced(due, house, 0, 3, 3);
        due.refused("speak again", house.speak(1));
        int[] none = {-1, 2, Integer.MIN_VALUE, Integer.MAX_VALUE};
        for (int i : none) {
            due.refused("speak(" + i + ")", house.speak(i));
        }
        due.same("SILENCED", house.look(3), 1);
        due.holds("silence after it", house.silence(1, 4, 4));
        isSilenced(due, house, 1, 4, 4);
    }

    private static void endsWithTheFinding(Due due) {
        FindingHouse house = twoFindings();
        house.silence(1, 9, 9);
        house.put(3, 1, Due.CLOSE);
        due.same("SILENCED", house.look(3), 0);
        house.put(3, 0, 255);
        due.same("SILENCED one CHANGE later", house.look(3), 0);
        due.same("since(0, 0) one CHANGE later", house.since(0, 0), 1);
        house.cut(3, 0);
        house.cut(3, 1);
        due.same("there again", house.finding(1, 4), 6);
        isSilenced(due, house, 1, 0, -1);
    }

    private static void movesWithTheFinding(Due due) {
        FindingHouse house = twoFindings();
        house.silence(1, 9, 2);
        house.put(3, 0, Due.CLOSE);
        house.put(1, 0, Due.use(3));
        due.same("its number", house.find(2, 1), 3);
        isSilenced(due, house, 3, 9, 2);
        isSilenced(due, house, 1, 0, -1);
        isSilenced(due, house, 2, 0, -1);
    }

    private static void countsSince(Due due) {
        FindingHouse house = twoFindings();
        house.put(5, 0, 255);
        house.put(5, 0, Due.CLOSE);
        house.silence(2, 1, 1);
        int[] after = {3, 2, 1, 1, 0};
        int[] heard = {2, 1, 0, 0, 0};
        for (int c = 0; c < after.length; c++) {
            due.same("since(" + c + ", 0)", house.since(c, 0), after[c]);
            due.same("since(" + c + ", 1)", house.since(c, 1), heard[c]);
        }
        due.same("since the least", house.since(Integer.MIN_VALUE, 0), 3);
        due.same("since -1", house.since(-1, 1), 2);
        due.same("since the most", house.since(Integer.MAX_VALUE, 0), 0);
        int[] others = {-1, 2, Integer.MIN_VALUE, Integer.MAX_VALUE};
        for (int what : others) {
            due.same("since(0, " + what + ")", house.since(0, what), -1);
        }
        house.day();
        due.same("SILENCED no more", house.since(3, 1), 1);
    }
}

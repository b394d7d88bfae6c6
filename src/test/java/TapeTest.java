/** Promises 5, 6 and 7: feed, end, load. */
public final class TapeTest {
    public static void main(String[] args) {
        Due due = new Due();
        feeds(due);
        ends(due);
        loads(due);
        emptiesTheTapeEvenIfRefused(due);
        knowsLinesAgain(due);
        countsAsAChange(due);
        keepsFindingsOfKeptLines(due);
        due.close();
    }

    private static void feeds(Due due) {
        FindingHouse house = new FindingHouse();
        due.same("feed", house.feed(0x01020304, -1, 0x80000000, 0x0a0b0c0d, 0x00ff0010), 20);
        due.same("load", house.load(0), 0);
        int[] bytes = {1, 2, 3, 4, 255, 255, 255, 255, 128, 0, 0, 0, 10, 11, 12, 13, 0, 255, 0, 16};
        for (int at = 0; at < bytes.length; at++) {
            due.same("byte " + at, house.line(0, at, 0), bytes[at]);
        }
        due.same("CHANGES", house.look(0), 1);
        due.same("feed", house.feed(0, 0, 0, 0, 0), 20);
        due.same("feed", house.feed(0, 0, 0, 0, 0), 40);
        due.same("feed over 40", house.feed(0, 0, 0, 0, 0), -1);
        due.holds("still 40", house.end(40));
        due.holds("end", house.end(21));
        due.same("feed to 41", house.feed(1, 1, 1, 1, 1), -1);
        due.refused("nothing came", house.end(22));
        due.holds("end", house.end(20));
        due.same("feed to 40", house.feed(0x05060708, 0, 0, 0, 0), 40);
        due.holds("end", house.end(23));
        due.same("load", house.load(1), 0);
        due.same("behind the tape", house.line(1, 20, 0), 5);
        due.same("behind the tape", house.line(1, 22, 0), 7);
        due.same("no more", house.line(1, 23, 0), -1);
    }

    private static void ends(Due due) {
        FindingHouse house = new FindingHouse();
        due.holds("end(0) of none", house.end(0));
        due.refused("end(1) of none", house.end(1));
        house.feed(0x01020304, 0, 0, 0, 0);
        due.refused("end(21)", house.end(21));
        due.refused("end(-1)", house.end(-1));
        due.refused("end of the least", house.end(Integer.MIN_VALUE));
        due.refused("end of the most", house.end(Integer.MAX_VALUE));
        due.holds("end(20)", house.end(20));
        due.holds("end(3)", house.end(3));
        due.refused("end(4)", house.end(4));
        due.same("feed", house.feed(0x09000000, 0, 0, 0, 0), 23);
        due.holds("end(4)", house.end(4));
        due.same("CHANGES", house.look(0), 0);
        house.load(2);
        due.same("byte", house.line(2, 2, 0), 3);
        due.same("byte behind", house.line(2, 3, 0), 9);
        due.same("LINES", house.look(6), 4);
    }

    private static void loads(Due due) {
        FindingHouse house = new FindingHouse();
        due.same("load 32", Due.tell(house, 5, Due.times(32, 1)), 0);
        due.same("LINES", house.look(6), 32);
        due.same("the tape is empty then", house.feed(0, 0, 0, 0, 0), 20);
        house.end(0);
        due.same("load the same 32", Due.tell(house, 5, Due.times(32, 1)), 32);
        due.same("IDS", house.look(7), 32);
        due.same("load none", house.load(5), 0);
        due.same("LINES", house.look(6), 0);
        due.same("load 32 again", Due.tell(house, 5, Due.times(32, 1)), 0);
        due.same("IDS", house.look(7), 64);
    }

    private static void emptiesTheTapeEvenIfRefused(Due due) {
        FindingHouse house = new FindingHouse();
        house.put(0, 0, 3);
        Due.fill(house, Due.times(33, 3));
        due.same("load of 33", house.load(0), -1);
        due.refused("the tape is empty", house.end(1));
        int[] noFiles = {-1, 6, Integer.MIN_VALUE, Integer.MAX_VALUE};
        for (int file : noFiles) {
            Due.fill(house, 4, 4);
            due.same("load(" + file + ")", house.load(file), -1);
            due.refused("the tape is empty", house.end(1));
        }
        due.same("CHANGES", house.look(0), 1);
        due.same("LINES", house.look(6), 1);
        due.same("IDS", house.look(7), 1);
        due.same("byte", house.line(0, 0, 0), 3);
    }

    private static void knowsLinesAgain(Due due) {
        FindingHouse house = new FindingHouse();
        due.same("0 1 2 3", Due.tell(house, 0, 0, 1, 2, 3), 0);
        due.same("new ones ahead", Due.tell(house, 0, 8, 9, 0, 1, 2, 3), 4);
        due.hasIds(house, 0, 4, 5, 0, 1, 2, 3);
        due.same("moved behind", Due.tell(house, 0, 2, 3, 8, 9), 2);
        due.hasIds(house, 0, 2, 3, 6, 7);

        FindingHouse twins = new FindingHouse();
        Due.tell(twins, 1, 1, 2);
        due.same("of 1 2 and 2 1", Due.tell(twins, 1, 2, 1), 1);
        due.hasIds(twins, 1, 1, 2);

        FindingHouse alike = new FindingHouse();
        Due.tell(alike, 1, 5, 5, 5);
        due.same("two of three alike", Due.tell(alike, 1, 5, 5), 2);
        due.hasIds(alike, 1, 0, 1);
        due.same("four of two alike", Due.tell(alike, 1, 5, 5, 5, 5), 2);
        due.hasIds(alike, 1, 0, 1, 3, 4);

        // Was 1 2 1, is 1 3 1 2 1 1: both ends alike, the row of all three is the longest.
        FindingHouse mixed = new FindingHouse();
        Due.tell(mixed, 1, 1, 2, 1);
        due.same("1 3 1 2 1 1", Due.tell(mixed, 1, 1, 3, 1, 2, 1, 1), 3);
        due.hasIds(mixed, 1, 0, 3, 4, 1, 2, 5);

        // Was 1 2 3, is 3 1 9 2: the 1 that was can't go, so the 3 that is is a new one.
        FindingHouse front = new FindingHouse();
        Due.tell(front, 1, 1, 2, 3);
        due.same("3 1 9 2", Due.tell(front, 1, 3, 1, 9, 2), 2);
        due.hasIds(front, 1, 3, 0, 4, 1);
    }

    private static void countsAsAChange(Due due) {
        FindingHouse house = new FindingHouse();
        due.same("none for none", house.load(4), 0);
        due.same("CHANGES", house.look(0), 1);
        due.same("WORKED", house.look(5), 1 << 4);
        Due.tell(house, 3, 6, 7);
        due.same("the same told anew", Due.tell(house, 3, 6, 7), 2);
        due.same("CHANGES", house.look(0), 3);
        due.same("WORKED", house.look(5), 1 << 3);
    }

    private static void keepsFindingsOfKeptLines(Due due) {
        FindingHouse house = new FindingHouse();
        Due.tell(house, 2, Due.use(1), Due.use(2), Due.OPEN);
        house.silence(1, 9, 4);
        Due.tell(house, 2, Due.CLOSE, Due.use(2), Due.use(1));
        due.same("FINDINGS", house.look(2), 3);
        due.isFinding(house, 0, 2, 2, 0, 3, 2);
        due.isFinding(house, 1, 0, 2, 1, 1, 1);
        due.isFinding(house, 2, 0, 2, 2, 4, 2);
        due.same("still SILENCED", house.finding(1, 7), 4);
        due.same("SILENCED", house.look(3), 1);
        due.same("LOG", house.look(4), 2);
        due.isLogged(house, 0, 2, 2, 1, 2);
        due.isLogged(house, 1, 0, 0, 1, 2);
    }
}

import java.util.Random;

/** Calls with any arguments at all, far more than 512 on one object: none may throw. */
public final class WildTest {
    private static final int[] EDGES = {Integer.MIN_VALUE, -33, -1, 0, 1, 2, 5, 6, 7, 8, 31, 32, 33, 40, 41, 59, 60,
        99, 100, 128, 191, 192, 255, 256, 10000, Integer.MAX_VALUE};

    public static void main(String[] args) {
        Due due = new Due();
        for (int seed = 0; seed < 50; seed++) {
            Random random = new Random(seed);
            FindingHouse house = new FindingHouse();
            for (int k = 0; k < 20000; k++) {
                due.same("call " + k + " of " + seed, survives(house, random) ? 1 : 0, 1);
            }
        }
        due.close();
    }

    private static int some(Random random) {
        switch (random.nextInt(4)) {
            case 0: return EDGES[random.nextInt(EDGES.length)];
            case 1: return random.nextInt(256);
            case 2: return random.nextInt(33);
            default: return random.nextInt(6);
        }
    }

    private static boolean survives(FindingHouse house, Random random) {
        int a = some(random);
        int b = some(random);
        int c = some(random);
        try {
            switch (random.nextInt(16)) {
                case 0: house.put(a, b, c); break;
                case 1: house.cut(a, b); break;
                case 2: house.change(a, b, c); break;
                case 3: house.feed(random.nextInt(), random.nextInt(), random.nextInt(), b, c); break;
                case 4: house.end(a); break;
                case 5: house.load(a); break;
                case 6: house.bad(a); break;
                case 7: house.day(); break;
                case 8: house.look(a); break;
                case 9: house.line(a, b, c); break;
                case 10: house.finding(a, b); break;
                case 11: house.find(a, b); break;
                case 12: house.silence(a, b, c); break;
                case 13: house.speak(a); break;
                case 14: house.since(a, b); break;
                default: house.log(a, b); break;
            }
            return true;
        } catch (RuntimeException thrown) {
            System.out.println(thrown);
            return false;
        }
    }
}

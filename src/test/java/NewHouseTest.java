/** Promise 1, and the face of the class. */
public final class NewHouseTest {
    private static final String[] METHODS = {
        "int put(int,int,int)", "boolean cut(int,int)", "boolean change(int,int,int)",
        "int feed(int,int,int,int,int)", "boolean end(int)", "int load(int)", "boolean bad(int)",
        "int day()", "int look(int)", "int line(int,int,int)", "int finding(int,int)", "int find(int,int)",
        "boolean silence(int,int,int)", "boolean speak(int)", "int since(int,int)", "int log(int,int)"};

    public static void main(String[] args) {
        Due due = new Due();
        nothingIsThere(due);
        housesShareNothing(due);
        faceIsTheDocuments(due);
        due.close();
    }

    private static void nothingIsThere(Due due) {
        FindingHouse house = new FindingHouse();
        for (int what = 0; what <= 8; what++) {
            due.same("look(" + what + ")", house.look(what), 0);
        }
        for (int file = -1; file <= 6; file++) {
            due.same("line(" + file + ", 0, 0)", house.line(file, 0, 0), -1);
            due.refused("cut(" + file + ", 0)", house.cut(file, 0));
        }
        due.same("finding(0, 0)", house.finding(0, 0), -1);
        due.same("find(0, 0)", house.find(0, 0), -1);
        due.same("log(0, 0)", house.log(0, 0), -1);
        due.same("since(-1, 0)", house.since(-1, 0), 0);
        due.refused("end(1)", house.end(1));
        due.same("NONE", FindingHouse.NONE, -1);
    }

    private static void housesShareNothing(Due due) {
        FindingHouse one = new FindingHouse();
        one.put(0, 0, Due.use(1));
        one.day();
        one.bad(5);
        FindingHouse other = new FindingHouse();
        for (int what = 0; what <= 8; what++) {
            due.same("look(" + what + ") of another", other.look(what), 0);
        }
    }

    private static void faceIsTheDocuments(Due due) {
        java.util.List<String> shown = new java.util.ArrayList<>();
        for (java.lang.reflect.Method method : FindingHouse.class.getDeclaredMethods()) {
            boolean hidden = java.lang.reflect.Modifier.isPrivate(method.getModifiers());
            String types = "";
            for (Class<?> type : method.getParameterTypes()) {
                types += (types.isEmpty() ? "" : ",") + type.getName();
            }
            if (!hidden) {
                shown.add(method.getReturnType().getName() + " " + method.getName() + "(" + types + ")");
            }
        }
        due.same("methods shown " + shown, shown.size(), METHODS.length);
        for (String method : METHODS) {
            due.holds("shows " + method, shown.contains(method));
        }
        int fields = 0;
        for (java.lang.reflect.Field field : FindingHouse.class.getDeclaredFields()) {
            fields += java.lang.reflect.Modifier.isPrivate(field.getModifiers()) ? 0 : 1;
        }
        due.same("constants shown", fields, 1);
        due.same("constructors", FindingHouse.class.getDeclaredConstructors().length, 1);
        due.holds("final class", java.lang.reflect.Modifier.isFinal(FindingHouse.class.getModifiers()));
    }
}

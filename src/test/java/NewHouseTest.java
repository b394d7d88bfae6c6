import java.lang.reflect.Field;
import java.lang.reflect.Method;
import java.lang.reflect.Modifier;
import java.util.ArrayList;
import java.util.List;

/** Promise 1, and the face of the class. */
public final class NewHouseTest {
    private static final String[] METHODS = {
        "int put(int,int,int)", "boolean cut(int,int)", "boolean change(int,int,int)",
        "int feed(int,int,int,int,int)", "boolean end(int)", "int load(int)", "boolean bad(int)",
        "int day()", "int look(int)", "int line(int,int,int)", "int finding(int,int)", "int find(int,int)",
        "boolean silence(int,int,int)", "boolean speak(int)", "int since(int,int)", "int log(int,int)"};

    public static void main(String[] args) {
        Due due = new Due();
        nothingIsThere(due);
        housesShareNothing(due);
        faceIsTheDocuments(due);
        due.close();
    }

    private static void nothingIsThere(Due due) {
        FindingHouse house = new FindingHouse();
        for (int what = 0; what <= 8; what++) {
            due.same("look(" + what + ")", house.look(what), 0);
        }
        for (int file = -1; file <= 6; file++) {
            due.same("line(" + file + ", 0, 0)", house.line(file, 0, 0), -1);
            due.refused("cut(" + file + ", 0)", house.cut(file, 0));
        }
        due.same("finding(0, 0)", house.finding(0, 0), -1);
        due.same("find(0, 0)", house.find(0, 0), -1);
        due.same("log(0, 0)", house.log(0, 0), -1);
        due.same("since(-1, 0)", house.since(-1, 0), 0);
        due.refused("end(1)", house.end(1));
        due.same("NONE", FindingHouse.NONE, -1);
    }

    private static void housesShareNothing(Due due) {
        FindingHouse one = new FindingHouse();
        one.put(0, 0, Due.use(1));
        one.day();
        one.bad(5);
        FindingHouse other = new FindingHouse();
        for (int what = 0; what <= 8; what++) {
            due.same("look(" + what + ") of another", other.look(what), 0);
        }
    }

    private static void faceIsTheDocuments(Due due) {
        Class<?> house = FindingHouse.class;
        due.same("public final class", house.getModifiers(), Modifier.PUBLIC | Modifier.FINAL);
        due.holds("extends nothing", house.getSuperclass() == Object.class);
        due.same("implements", house.getInterfaces().length, 0);
        methodsAreTheDocuments(due);
        int constants = 0;
        for (Field field : house.getDeclaredFields()) {
            boolean hidden = Modifier.isPrivate(field.getModifiers());
            constants += hidden ? 0 : 1;
            due.holds(field + " is private, or NONE", hidden || isNone(field));
        }
        due.same("constants shown", constants, 1);
        due.same("constructors", house.getDeclaredConstructors().length, 1);
        due.same("public constructors", house.getConstructors().length, 1);
        due.same("what the constructor takes", house.getConstructors()[0].getParameterCount(), 0);
    }

    private static boolean isNone(Field field) {
        int constant = Modifier.PUBLIC | Modifier.STATIC | Modifier.FINAL;
        return field.getName().equals("NONE") && field.getType() == int.class && field.getModifiers() == constant;
    }

    private static void methodsAreTheDocuments(Due due) {
        List<String> shown = new ArrayList<>();
        for (Method method : FindingHouse.class.getDeclaredMethods()) {
            if (Modifier.isPrivate(method.getModifiers())) {
                continue;
            }
            due.same(method + " is public, and an object's", method.getModifiers(), Modifier.PUBLIC);
            due.same(method + " declares to throw", method.getExceptionTypes().length, 0);
            String types = "";
            for (Class<?> type : method.getParameterTypes()) {
                types += (types.isEmpty() ? "" : ",") + type.getName();
            }
            shown.add(method.getReturnType().getName() + " " + method.getName() + "(" + types + ")");
        }
        due.same("methods shown " + shown, shown.size(), METHODS.length);
        for (String method : METHODS) {
            due.holds("shows " + method, shown.contains(method));
        }
    }
}

import java.lang.reflect.*;
import java.util.*;

/** The class has the face that the document gives it, and nothing else that is open. */
public final class FaceTest {
    private static final String[] FACE = {
        "int put(int,int,int)", "int fact(int,int)", "int wind(int,int,int)", "int cloud(int,int,int,int,int)",
        "int of(int,int)", "int flag(int,int,int)", "int undo()", "int contract(int,int,int,int,int)", "int cancel()",
        "int terms(int,int)", "int feed(int,int,int,int,int)", "int end(int)", "int row()", "int haze()", "int law()",
        "int drives()", "int fault()", "int stopped()", "int force(int)", "int asks(int,int,int)", "int at(int,int,int)",
        "int dark(int)", "int heat(int,int)", "int scorched(int)", "int broken(int)", "int judge(int)",
        "int drive(int,int,int,int,int)", "int pasture(int,int,int)", "int serve(int,int)", "int cross(int,int,int)",
        "int part(int,int)", "long likely(int,int,int)", "long surest(int,int,int)", "int steer(int,int,int,int,int,int)",
        "int sight(int,int,int)", "int forget()", "int stray(int,int,int,int)", "int rustled(int)", "int men()",
        "int duel(int,int,int,int)", "int summer(int,int)", "int drawn(int)", "int image(int)", "int back(int)",
        "int count(int)", "int status()"};

    private static int wrong = 0;

    private static void check(boolean so, String what) {
        if (!so) {
            wrong++;
            System.out.println("face: " + what);
        }
    }

    public static void main(String[] args) throws Exception {
        Class<?> type = ShadowHerds.class;
        check(Modifier.isPublic(type.getModifiers()) && Modifier.isFinal(type.getModifiers()), "not public and final");
        check(type.getPackage() == null || type.getPackage().getName().isEmpty(), "it has a package");
        check(type.getSuperclass() == Object.class && type.getInterfaces().length == 0, "it is of another kind");
        Set<String> due = new TreeSet<>(Arrays.asList(FACE));
        Set<String> there = new TreeSet<>();
        for (Method method : type.getDeclaredMethods()) {
            if (method.isSynthetic() || Modifier.isPrivate(method.getModifiers())) {
                continue;
            }
            StringBuilder text = new StringBuilder(method.getReturnType() + " " + method.getName() + "(");
            for (Class<?> parameter : method.getParameterTypes()) {
                text.append(text.charAt(text.length() - 1) == '(' ? "" : ",").append(parameter);
            }
            there.add(text + ")");
            check(method.getModifiers() == Modifier.PUBLIC, method + " is not only public");
            check(method.getExceptionTypes().length == 0, method + " throws");
        }
        check(there.equals(due), "the methods are " + there);
        Set<String> fields = new TreeSet<>();
        for (Field field : type.getDeclaredFields()) {
            if (!Modifier.isPrivate(field.getModifiers())) {
                fields.add(field.toString() + "=" + field.get(null));
            }
        }
        check(fields.equals(new TreeSet<>(List.of("public static final int ShadowHerds.NONE=-1",
            "public static final int ShadowHerds.NOTHING=-1000"))), "the fields are " + fields);
        Constructor<?>[] makers = type.getDeclaredConstructors();
        check(makers.length == 1 && makers[0].getParameterCount() == 0 && Modifier.isPublic(makers[0].getModifiers()),
            "the constructors are " + Arrays.toString(makers));
        System.out.println(wrong == 0 ? "the face is as told" : wrong + " faults of the face");
        if (wrong != 0) {
            System.exit(1);
        }
    }
}

import java.lang.reflect.Constructor;
import java.lang.reflect.Field;
import java.lang.reflect.Method;
import java.lang.reflect.Modifier;
import java.util.ArrayList;
import java.util.Collections;
import java.util.List;

/** The public face is the document's, no more and no less (LANGUAGE.md, rule 1). */
public final class FaceTest {
    private static final String[] FACE = {
        "int type(int)", "int clear()", "int gorge()", "int person(int,int)", "int plank(int,int)",
        "int hold(int,int)", "int now(int)", "int promises(int,int)", "int breaks(int,int)", "int days()",
        "int crosses(int)", "int undo()", "int when(int)", "int fewest(int,int)", "int soon(int)",
        "int pair(int,int,int)", "int enough(int)", "int friends(int)", "int byTurns(int)",
        "int odds(int,int,int)", "int winter(int,int,int)", "int sees(int,int)", "int forget()",
        "int words(int,int)", "int next(int)", "int rate(int,int)", "int keep(int)", "int back(int)",
        "int count(int)", "long trace()"};

    public static void main(String[] args) {
        Check check = new Check();
        check.isTrue("the class is public and final",
            Modifier.isPublic(HalfPlanks.class.getModifiers()) && Modifier.isFinal(HalfPlanks.class.getModifiers()));
        methods(check);
        fields(check);
        Constructor<?>[] makers = HalfPlanks.class.getDeclaredConstructors();
        check.same("constructors", makers.length, 1);
        check.isTrue("the constructor is public and takes nothing",
            Modifier.isPublic(makers[0].getModifiers()) && makers[0].getParameterCount() == 0);
        check.end();
    }

    private static void methods(Check check) {
        List<String> open = new ArrayList<>();
        List<String> names = new ArrayList<>();
        for (Method m : HalfPlanks.class.getDeclaredMethods()) {
            if (!Modifier.isPrivate(m.getModifiers())) {
                check.isTrue(m.getName() + " is public and not static",
                    Modifier.isPublic(m.getModifiers()) && !Modifier.isStatic(m.getModifiers()));
                open.add(written(m));
                names.add(m.getName());
            }
        }
        List<String> due = new ArrayList<>(List.of(FACE));
        Collections.sort(due);
        Collections.sort(open);
        check.isTrue("methods are " + open + ", due are " + due, open.equals(due));
        for (Method m : HalfPlanks.class.getDeclaredMethods()) {
            if (Modifier.isPrivate(m.getModifiers())) {
                check.isTrue("private " + m.getName() + " has a name of its own", !names.contains(m.getName()));
            }
        }
    }

    private static String written(Method m) {
        StringBuilder text = new StringBuilder(m.getReturnType().getName() + " " + m.getName() + "(");
        for (int i = 0; i < m.getParameterCount(); i++) {
            text.append(i == 0 ? "" : ",").append(m.getParameterTypes()[i].getName());
        }
        return text.append(")").toString();
    }

    private static void fields(Check check) {
        List<String> open = new ArrayList<>();
        for (Field f : HalfPlanks.class.getDeclaredFields()) {
            if (!Modifier.isPrivate(f.getModifiers())) {
                open.add(f.getName());
            }
        }
        Collections.sort(open);
        check.isTrue("open fields are the constants: " + open,
            open.equals(List.of("BAD", "FULL", "NO", "NONE", "STATE")));
        check.same("BAD", HalfPlanks.BAD, -1);
        check.same("STATE", HalfPlanks.STATE, -2);
        check.same("FULL", HalfPlanks.FULL, -3);
        check.same("NONE", HalfPlanks.NONE, -9);
        check.same("NO", HalfPlanks.NO, -1000000);
    }
}

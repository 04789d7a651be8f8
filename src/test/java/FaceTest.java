import java.lang.reflect.Constructor;
import java.lang.reflect.Field;
import java.lang.reflect.Method;
import java.lang.reflect.Modifier;
import java.util.Arrays;
import java.util.TreeSet;

/** Promise 1 and the public face: nothing is missing, and nothing else can be seen from outside. */
public final class FaceTest {
    private static final String[] METHODS = {
        "int buyers(int)", "int book(int,int,int)", "int more(int,int,int)", "int about(int,int,int)",
        "int whole(int,int)", "long slope(int,int,boolean,int)", "int gets(int,int,int)",
        "int pays(int,int,int,int)", "long gain(int,int,int,int,int)", "long brings(int)", "int reserve(int)",
        "int pay(int,int,int,int)", "long average(int,int)", "long offers(int,int)", "int bundle(int,int,int)",
        "int sample(int)", "int clear()", "int learnt()", "int count(int)", "long trace()",
    };

    public static void main(String[] args) {
        methods();
        constants();
        newObject();
        Check.end();
    }

    private static void methods() {
        TreeSet<String> due = new TreeSet<>(Arrays.asList(METHODS));
        TreeSet<String> names = new TreeSet<>();
        TreeSet<String> seen = new TreeSet<>();
        for (Method m : DoubtSale.class.getDeclaredMethods()) {
            if (m.isSynthetic() || Modifier.isPrivate(m.getModifiers())) {
                continue;
            }
            StringBuilder text = new StringBuilder();
            for (Class<?> type : m.getParameterTypes()) {
                text.append(text.length() == 0 ? "" : ",").append(type.getName());
            }
            seen.add(m.getReturnType().getName() + " " + m.getName() + "(" + text + ")");
            names.add(m.getName());
            Check.due(m + " is public", Modifier.isPublic(m.getModifiers()) ? 1 : 0, 1);
        }
        Check.due("methods seen " + seen + " due " + due, seen.equals(due) ? 1 : 0, 1);
        for (Method m : DoubtSale.class.getDeclaredMethods()) {
            if (Modifier.isPrivate(m.getModifiers())) {
                Check.due("private " + m.getName() + " bears a public name", names.contains(m.getName()) ? 1 : 0, 0);
            }
        }
    }

    private static void constants() {
        Check.due("class is public and final",
                DoubtSale.class.getModifiers() & (Modifier.PUBLIC | Modifier.FINAL), Modifier.PUBLIC | Modifier.FINAL);
        Constructor<?>[] made = DoubtSale.class.getDeclaredConstructors();
        Check.due("constructors", made.length, 1);
        Check.due("the constructor is public", Modifier.isPublic(made[0].getModifiers()) ? 1 : 0, 1);
        int open = 0;
        for (Field f : DoubtSale.class.getDeclaredFields()) {
            if (!Modifier.isPrivate(f.getModifiers())) {
                open++;
            }
        }
        Check.due("fields that are not private", open, 5);
        Check.due("BAD", DoubtSale.BAD, -1);
        Check.due("STATE", DoubtSale.STATE, -2);
        Check.due("FULL", DoubtSale.FULL, -3);
        Check.due("NONE", DoubtSale.NONE, -9);
        Check.due("NO", DoubtSale.NO, -1000000000000000L);
    }

    private static void newObject() {
        DoubtSale x = new DoubtSale();
        Check.due("count(0)", x.count(0), 1);
        Check.due("count(1)", x.count(1), 0);
        Check.due("count(2)", x.count(2), 0);
        Check.due("trace()", x.trace(), 0);
        Check.due("learnt()", x.learnt(), -9);
        Check.due("whole(0, 0)", x.whole(0, 0), 1);
        Check.due("whole(0, 1)", x.whole(0, 1), 1);
        Check.due("whole(0, 2)", x.whole(0, 2), 0);
        Check.due("about(0, 0, 0)", x.about(0, 0, 0), 0);
        Check.due("about(0, 0, 1)", x.about(0, 0, 1), 1);
        Check.due("slope(0, 0, true, 0)", x.slope(0, 0, true, 0), 0);
        Check.due("slope(0, 0, true, 1)", x.slope(0, 0, true, 1), 1);
        Check.due("gets(0, 0, 0)", x.gets(0, 0, 0), -9);
        Check.due("brings(0)", x.brings(0), 0);
        Check.due("brings(1)", x.brings(1), 1);
        Check.due("average(2, 1)", x.average(2, 1), 1);
        Check.due("offers(0, 2) a worth of 0 is a price before none", x.offers(0, 2), 0);
    }
}

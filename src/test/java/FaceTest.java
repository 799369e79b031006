import java.lang.reflect.Constructor;
import java.lang.reflect.Field;
import java.lang.reflect.Method;
import java.lang.reflect.Modifier;
import java.util.Arrays;
import java.util.Set;
import java.util.TreeSet;

/** The public face, and that the class shows nothing else (LANGUAGE.md, 1, 2, 5 and 11). */
public final class FaceTest {
    private static final String[] FACE = {"days(int)", "place(int,int)", "roll(int,int,int,int,int)",
        "number(int,int,int,int,boolean)", "weigh(int,int)", "list(int,int,int,int)", "ranked(int,int,int)",
        "person(int,int,int,int)", "gone(int)", "right(int,int,int,int,int)", "end(int)", "feed(int,long)",
        "text(boolean)", "old(int,int,int)", "may(int,int,int,int)", "furrows(int,int,int)",
        "sell(int,int,int,int)", "twice(int)", "base(int,int)", "worth(int,int,int)", "fact(int,int,int)",
        "ends(int,int)", "member(int,int)", "lot(int,int)", "line(int,int,int,int)", "stands(int)", "falls(int)",
        "under(int,int,int,int)", "gain(int,int,int)", "want(int,int,int)", "bar(int,int)", "read(int,int)",
        "there(int,int,int,int)", "divide(int,int,int)", "carry(int,int)", "nights(int,int)",
        "nightOf(int,int,int)", "patron(int,int)", "elect(int,int,int,int)", "put(int)", "check(int,int)",
        "count(int)"};

    public static void main(String[] args) {
        methods();
        members();
        classesInside();
        Due.end();
    }

    private static String signature(Method method) {
        StringBuilder to = new StringBuilder(method.getName()).append('(');
        for (Class<?> type : method.getParameterTypes()) {
            to.append(to.charAt(to.length() - 1) == '(' ? "" : ",").append(type.getSimpleName());
        }
        return to.append(')').toString();
    }

    private static void methods() {
        Set<String> face = new TreeSet<>(Arrays.asList(FACE));
        Set<String> names = new TreeSet<>();
        for (String of : FACE) {
            names.add(of.substring(0, of.indexOf('(')));
        }
        Set<String> shown = new TreeSet<>();
        for (Method method : RottenSeats.class.getDeclaredMethods()) {
            if (Modifier.isPublic(method.getModifiers())) {
                shown.add(signature(method));
                hold(method.getReturnType() == int.class, signature(method) + " answers no int");
                hold(!Modifier.isStatic(method.getModifiers()), signature(method) + " is static");
            } else {
                hold(Modifier.isPrivate(method.getModifiers()), signature(method) + " is not private");
                hold(!names.contains(method.getName()), signature(method) + " bears the name of a public one");
            }
        }
        hold(shown.equals(face), "the public methods are " + shown + ", due are " + face);
    }

    private static void members() {
        Class<?> of = RottenSeats.class;
        hold(Modifier.isFinal(of.getModifiers()) && Modifier.isPublic(of.getModifiers()), "the class is public, final");
        hold(of.getPackageName().isEmpty(), "the class has no package");
        Constructor<?>[] constructors = of.getDeclaredConstructors();
        hold(constructors.length == 1 && Modifier.isPublic(constructors[0].getModifiers())
                && constructors[0].getParameterCount() == 0, "one public constructor without arguments");
        for (Field field : of.getDeclaredFields()) {
            hold(Modifier.isPrivate(field.getModifiers()), field + " is not private");
        }
    }

    private static void classesInside() {
        Class<?>[] inside = RottenSeats.class.getDeclaredClasses();
        hold(inside.length <= 11, "classes inside: " + inside.length);
        for (Class<?> of : inside) {
            hold(Modifier.isStatic(of.getModifiers()), of + " is not static");
            hold(!Modifier.isPublic(of.getModifiers()) && !Modifier.isProtected(of.getModifiers()), of + " is shown");
            hold(of.getDeclaredClasses().length == 0, of + " has classes inside");
            fields(of);
        }
        fields(RottenSeats.class);
    }

    private static void fields(Class<?> of) {
        int own = 0;
        for (Field field : of.getDeclaredFields()) {
            if (Modifier.isStatic(field.getModifiers())) {
                hold(Modifier.isFinal(field.getModifiers()), field + " is static and not final");
            } else {
                own++;
            }
        }
        hold(own <= 20, of + " has " + own + " fields");
    }

    private static void hold(boolean so, String what) {
        if (!so) {
            Due.fail(what);
        } else {
            Due.due(what, 0, 0);
        }
    }
}

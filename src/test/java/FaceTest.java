import java.lang.reflect.Constructor;
import java.lang.reflect.Field;
import java.lang.reflect.Method;
import java.lang.reflect.Modifier;
import java.util.Arrays;
import java.util.List;
import java.util.NoSuchElementException;
import java.util.Set;
import java.util.TreeSet;
import java.util.stream.Collectors;

/** The document's face and no other: its constant, its constructor, its calls. */
public final class FaceTest {
    private static final String[] FACE = {
        "int lay(int, int)", "int relay(int, int)", "int spoil(int, int)", "int heal(int)",
        "long number(int, int)", "int way(int)", "int right(int)", "int agree(int)",
        "int prime(int, int)", "long whole(int)", "int residue(int, int)", "int byPowers(int, int)",
        "int memo(int, int)", "int often(int, int)", "int kummer(int, int, int)",
        "int kummerTwice(int, int, int)", "int tests(int)", "long suspects(int)", "int broken(int)",
        "int culprit(int)", "int trial(int, int, int)", "long remainder(int, int)",
        "long triangleAt(int, int, int)", "int whichBelow(int)", "int irregular(int)",
        "int pair(int, int)", "int second(int)", "int far(int, int)", "int voronoi(int, int, int)",
        "int byWay(int, int, int)", "int nothings(int, int)", "int harmonic(int)", "int wilson(int)",
        "int classNumber(int)", "long quadratic(int, int, int)", "int regulars(int)",
        "long coefficient(int, int, int)", "int sum(int, int)", "int digits(int, int)",
        "int digit(int, int, int)", "int progression(int, int, int, int)",
        "long triangular(int, int, int)", "long poly(int, int, int)",
        "long value(int, int, int, int)", "int at(int, int, int)", "int roots(int, int)",
        "long zeta(int, int)", "long genocchi(int)", "long onto(int, int)", "long byBoxes(int, int)",
        "long zigzag(int)", "long tangent(int)", "int growth(int)", "int count(int)"
    };
    private static int wrong = 0;

    public static void main(String[] args) throws Exception {
        faceIsTheDocuments();
        nothingElseIsSeen();
        namesAreTheirOwn();
        constantsAreTheDocuments();
        onlyNumberThrows();
        System.out.println(wrong == 0 ? "the face is as due" : wrong + " faults of the face");
        if (wrong != 0) {
            System.exit(1);
        }
    }

    private static void must(boolean holds, String what) {
        if (!holds) {
            wrong++;
            System.out.println(what);
        }
    }

    private static String told(Method method) {
        return method.getReturnType().getSimpleName() + " " + method.getName() + Arrays.stream(method.getParameterTypes())
            .map(Class::getSimpleName).collect(Collectors.joining(", ", "(", ")"));
    }

    private static void faceIsTheDocuments() {
        Set<String> due = new TreeSet<>(List.of(FACE));
        Set<String> seen = new TreeSet<>();
        for (Method method : BernoulliWays.class.getDeclaredMethods()) {
            if (Modifier.isPublic(method.getModifiers())) {
                seen.add(told(method));
            }
        }
        must(due.equals(seen), "the face has " + seen);
        int modifiers = BernoulliWays.class.getModifiers();
        must(Modifier.isPublic(modifiers) && Modifier.isFinal(modifiers), "the class isn't public and final");
        must(BernoulliWays.class.getSuperclass() == Object.class
            && BernoulliWays.class.getInterfaces().length == 0, "the class has more above it");
    }

    private static void nothingElseIsSeen() {
        for (Method method : BernoulliWays.class.getDeclaredMethods()) {
            int modifiers = method.getModifiers();
            must(Modifier.isPublic(modifiers) || Modifier.isPrivate(modifiers), method + " is seen");
        }
        for (Field field : BernoulliWays.class.getDeclaredFields()) {
            must(field.getName().equals("NONE") || Modifier.isPrivate(field.getModifiers()), field + " is seen");
            must(!Modifier.isStatic(field.getModifiers()) || Modifier.isFinal(field.getModifiers()),
                field + " isn't final");
        }
        Constructor<?>[] constructors = BernoulliWays.class.getDeclaredConstructors();
        must(constructors.length == 1 && constructors[0].getParameterCount() == 0
            && Modifier.isPublic(constructors[0].getModifiers()), "another constructor");
        for (Class<?> inside : BernoulliWays.class.getDeclaredClasses()) {
            must(Modifier.isStatic(inside.getModifiers()), inside + " isn't static");
            must(Modifier.isPrivate(inside.getModifiers()), inside + " is seen");
        }
    }

    private static void constantsAreTheDocuments() throws Exception {
        Field none = BernoulliWays.class.getField("NONE");
        int constant = Modifier.PUBLIC | Modifier.STATIC | Modifier.FINAL;
        must(none.getModifiers() == constant && none.getType() == int.class, "NONE is told otherwise");
        must(none.getInt(null) == -1, "NONE is " + none.getInt(null));
        must(BernoulliWays.class.getFields().length == 1, "another constant than NONE");
    }

    private static void onlyNumberThrows() {
        for (Method method : BernoulliWays.class.getMethods()) {
            if (method.getDeclaringClass() != BernoulliWays.class) {
                continue;
            }
            List<Class<?>> due = method.getName().equals("number") ? List.of(NoSuchElementException.class) : List.of();
            must(List.of(method.getExceptionTypes()).equals(due), method + " is told to throw otherwise");
        }
    }

    private static void namesAreTheirOwn() {
        Set<String> face = new TreeSet<>();
        for (String method : FACE) {
            face.add(method.substring(method.indexOf(' ') + 1, method.indexOf('(')));
        }
        for (Method method : BernoulliWays.class.getDeclaredMethods()) {
            must(Modifier.isPublic(method.getModifiers()) || !face.contains(method.getName()),
                method + " bears a name of the face");
        }
        for (Class<?> inside : BernoulliWays.class.getDeclaredClasses()) {
            for (Method method : inside.getDeclaredMethods()) {
                must(!face.contains(method.getName()), method + " bears a name of the face");
            }
        }
    }
}

import java.lang.reflect.Constructor;
import java.lang.reflect.Field;
import java.lang.reflect.Method;
import java.lang.reflect.Modifier;
import java.util.Arrays;
import java.util.TreeSet;

/** The public face, as the document has it, and what LANGUAGE.md says of the members beside it. */
final class FaceTest {
    private static final String INDEX = " throws IndexOutOfBoundsException";
    private static final String ARGUMENT = " throws IllegalArgumentException";
    private static final String STATE = " throws IllegalStateException";
    private static final String INDEX_ARGUMENT = INDEX + ",IllegalArgumentException";
    private static final String ARGUMENT_STATE = ARGUMENT + ",IllegalStateException";
    private static final String INDEX_STATE = INDEX + ",IllegalStateException";
    private static final String ALL = INDEX_ARGUMENT + ",IllegalStateException";
    private static final String[] FACE = {
        "int sign(int,int,int,int)" + ARGUMENT_STATE,
        "int space(int)" + ARGUMENT_STATE,
        "int row()" + STATE,
        "int put(int,int)" + ALL,
        "int fraction(int,int)" + INDEX_STATE,
        "int root(int,int)" + INDEX_STATE,
        "int scripts(int,int,int)" + ALL,
        "int fence(int,boolean,boolean)" + ALL,
        "int matrix(int,int)" + ARGUMENT_STATE,
        "int fit(int,int,int)" + ALL,
        "int bar(int)" + INDEX_STATE,
        "int resize(int,int,int,int)" + INDEX_ARGUMENT,
        "int parts()",
        "int ofPart(int,int)" + INDEX_ARGUMENT,
        "int size(int,int,int)" + INDEX_ARGUMENT,
        "int top(int,int)" + ALL,
        "int place(int,int)" + ALL,
        "int at(int,int)",
        "int classAt(int,int)" + INDEX_ARGUMENT,
        "int gap(int,int)" + INDEX_ARGUMENT,
        "int breakRow(int,int)" + INDEX_ARGUMENT,
        "int line(int,int)" + INDEX_ARGUMENT,
        "long cost()",
        "int linesWith(int,int)" + INDEX_ARGUMENT,
        "int roomFor(int,int)" + INDEX_ARGUMENT,
        "int widthWith(int,int)" + ALL,
        "double density()",
        "long digest()"};

    public static void main(String[] args) {
        Check.test("the public methods are those of the document");
        publicMethods();
        Check.test("the class has no other member that is not private");
        otherMembers();
        Check.test("the classes inside it are as LANGUAGE.md has them");
        nestedClasses();
        Check.end();
    }

    private static String names(Class<?>[] types) {
        StringBuilder all = new StringBuilder();
        for (Class<?> type : types) {
            all.append(all.length() == 0 ? "" : ",").append(type.getSimpleName());
        }
        return all.toString();
    }

    private static String told(Method m) {
        String thrown = names(m.getExceptionTypes());
        return m.getReturnType() + " " + m.getName() + "(" + names(m.getParameterTypes()) + ")"
                + (thrown.isEmpty() ? "" : " throws " + thrown);
    }

    private static void publicMethods() {
        TreeSet<String> has = new TreeSet<>();
        TreeSet<String> publicNames = new TreeSet<>();
        for (Method m : Ropewalk.class.getDeclaredMethods()) {
            if (Modifier.isPublic(m.getModifiers())) {
                has.add(told(m));
                publicNames.add(m.getName());
                Check.holds(m.getName() + " is neither static nor final", (m.getModifiers() & ~Modifier.PUBLIC) == 0);
            }
        }
        TreeSet<String> due = new TreeSet<>(Arrays.asList(FACE));
        Check.holds("the public methods " + has + " are " + due, has.equals(due));
        for (Method m : Ropewalk.class.getDeclaredMethods()) {
            boolean isPrivate = Modifier.isPrivate(m.getModifiers());
            Check.holds(m.getName() + " is public or private", isPrivate || Modifier.isPublic(m.getModifiers()));
            Check.holds(m.getName() + " has a name of its own", !isPrivate || !publicNames.contains(m.getName()));
        }
    }

    private static void otherMembers() {
        Check.holds("the class is public and final", Ropewalk.class.getModifiers() == (Modifier.PUBLIC | Modifier.FINAL));
        Constructor<?>[] constructors = Ropewalk.class.getDeclaredConstructors();
        Check.holds("one public constructor without arguments", constructors.length == 1
                && Modifier.isPublic(constructors[0].getModifiers()) && constructors[0].getParameterCount() == 0);
        for (Field f : Ropewalk.class.getDeclaredFields()) {
            Check.holds(f.getName() + " is private", Modifier.isPrivate(f.getModifiers()));
        }
    }

    private static void nestedClasses() {
        Class<?>[] nested = Ropewalk.class.getDeclaredClasses();
        Check.holds("at most 12 classes", nested.length + 1 <= 12);
        for (Class<?> c : nested) {
            Check.holds(c.getName() + " is static and not public",
                    Modifier.isStatic(c.getModifiers()) && !Modifier.isPublic(c.getModifiers()));
            int own = 0;
            for (Field f : c.getDeclaredFields()) {
                boolean isStatic = Modifier.isStatic(f.getModifiers());
                own += isStatic ? 0 : 1;
                Check.holds(f.getName() + " is final, if it is static", !isStatic || Modifier.isFinal(f.getModifiers()));
            }
            Check.holds(c.getName() + " has at most 20 fields", own <= 20);
        }
    }
}

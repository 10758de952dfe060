import java.lang.reflect.Constructor;
import java.lang.reflect.Field;
import java.lang.reflect.Member;
import java.lang.reflect.Method;
import java.lang.reflect.Modifier;
import java.util.TreeSet;

/** The public face is that of the document, and nothing else of the class can be seen from outside. */
public final class FaceTest {
    private static final String[] FACE = {
        "int append(char) IllegalArgumentException IllegalStateException",
        "int load() IllegalArgumentException UnsupportedOperationException",
        "int errorPosition() NoSuchElementException",
        "int place(int,int,int) IndexOutOfBoundsException IllegalArgumentException",
        "int addPerformance(int,int) IllegalArgumentException IllegalStateException",
        "int setPrice(int,int) IndexOutOfBoundsException IllegalArgumentException",
        "int setFocus(int) IndexOutOfBoundsException",
        "boolean setRule(boolean)",
        "boolean block(int,int,int,boolean) IndexOutOfBoundsException IllegalArgumentException IllegalStateException",
        "int state(int,int,int) IndexOutOfBoundsException",
        "int holder(int,int,int) IndexOutOfBoundsException NoSuchElementException",
        "int advance(int) IllegalArgumentException IllegalStateException",
        "int blockCount(int,int,int,int) IndexOutOfBoundsException IllegalArgumentException",
        "int best(int,int,int,int,int) IndexOutOfBoundsException IllegalArgumentException NoSuchElementException",
        "int hold(int,int,int,int,int,int) IndexOutOfBoundsException IllegalArgumentException IllegalStateException",
        "int release(int) NoSuchElementException",
        "int confirm(int) NoSuchElementException IllegalStateException",
        "int heldBy(int,int) NoSuchElementException IllegalArgumentException",
        "int ticket(int,int,int) NoSuchElementException IllegalArgumentException",
        "int exchange(int,int,int) IndexOutOfBoundsException IllegalStateException",
        "int refund(int,int) IllegalStateException",
        "int performance(int,int) IndexOutOfBoundsException IllegalArgumentException",
        "int account(int) IndexOutOfBoundsException",
        "double soldShare(int) IndexOutOfBoundsException ArithmeticException",
        "float meanAmount() ArithmeticException",
        "int count(int) IllegalArgumentException",
        "int ledger(int,int) IndexOutOfBoundsException",
        "int reason()",
        "int undo() IllegalStateException",
        "boolean isReplayed()",
        "int snapshot()",
        "int restore() IllegalStateException",
    };

    private FaceTest() {
    }

    private static String signature(Method m) {
        StringBuilder text = new StringBuilder(m.getReturnType() + " " + m.getName() + "(");
        for (Class<?> type : m.getParameterTypes()) {
            text.append(text.charAt(text.length() - 1) == '(' ? "" : ",").append(type);
        }
        text.append(')');
        for (Class<?> type : m.getExceptionTypes()) {
            text.append(' ').append(type.getSimpleName());
        }
        return text.toString();
    }

    private static boolean isPrivate(Member member) {
        return Modifier.isPrivate(member.getModifiers());
    }

    public static void main(String[] args) {
        Class<TheatreBoxOffice> type = TheatreBoxOffice.class;
        TreeSet<String> open = new TreeSet<>();
        TreeSet<String> openNames = new TreeSet<>();
        TreeSet<String> closedNames = new TreeSet<>();
        for (Method m : type.getDeclaredMethods()) {
            if (isPrivate(m)) {
                closedNames.add(m.getName());
            } else {
                open.add((Modifier.isPublic(m.getModifiers()) ? "" : "not public: ") + signature(m));
                openNames.add(m.getName());
            }
        }
        Check.due("the methods", new TreeSet<>(java.util.List.of(FACE)), () -> open);
        closedNames.retainAll(openNames);
        Check.due("private methods with the name of a public one", "[]", () -> closedNames);
        Check.due("the class is public and final", Modifier.PUBLIC | Modifier.FINAL, type::getModifiers);
        Check.due("constructors", 1, () -> type.getDeclaredConstructors().length);
        for (Constructor<?> c : type.getDeclaredConstructors()) {
            Check.due("the constructor", "public TheatreBoxOffice()", c::toString);
        }
        for (Field f : type.getDeclaredFields()) {
            Check.due("private: " + f.getName(), true, () -> isPrivate(f));
            Check.due("static and not final: " + f.getName(), false,
                    () -> Modifier.isStatic(f.getModifiers()) && !Modifier.isFinal(f.getModifiers()));
        }
        for (Class<?> inside : type.getDeclaredClasses()) {
            Check.due("inside: " + inside.getSimpleName(), true,
                    () -> Modifier.isStatic(inside.getModifiers()) && !Modifier.isPublic(inside.getModifiers()));
        }
        Check.end("FaceTest");
    }
}

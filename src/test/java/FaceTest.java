import java.lang.reflect.Constructor;
import java.lang.reflect.Field;
import java.lang.reflect.Member;
import java.lang.reflect.Method;
import java.lang.reflect.Modifier;
import java.util.Arrays;
import java.util.Set;
import java.util.TreeSet;

/** The class has the document's face and nothing else that can be seen. */
public final class FaceTest {
    private static final Set<String> FACE = new TreeSet<>(Arrays.asList(
            "public static final int LegalRows.NONE",
            "public LegalRows(int,long)",
            "public int LegalRows.cell(long,int) throws java.lang.IllegalStateException,"
                    + "java.lang.IllegalArgumentException",
            "public boolean LegalRows.want(int,long,int) throws java.lang.IndexOutOfBoundsException",
            "public boolean LegalRows.bar(int,long,long) throws java.lang.IndexOutOfBoundsException",
            "public boolean LegalRows.kind(int,int,int) throws java.lang.IndexOutOfBoundsException,"
                    + "java.lang.IllegalArgumentException",
            "public boolean LegalRows.space(int,int,long) throws java.lang.IllegalArgumentException",
            "public int LegalRows.run()",
            "public long LegalRows.at(int) throws java.lang.IndexOutOfBoundsException,"
                    + "java.lang.IllegalStateException",
            "public int LegalRows.rowOf(int) throws java.lang.IndexOutOfBoundsException,"
                    + "java.lang.IllegalStateException",
            "public long LegalRows.moved() throws java.lang.IllegalStateException",
            "public boolean LegalRows.mirrored(int) throws java.lang.IndexOutOfBoundsException,"
                    + "java.lang.IllegalStateException",
            "public int LegalRows.improve(int) throws java.lang.IllegalStateException,"
                    + "java.lang.IllegalArgumentException",
            "public int LegalRows.net(int,int) throws java.lang.IndexOutOfBoundsException,"
                    + "java.lang.IllegalStateException,java.lang.IllegalArgumentException",
            "public long LegalRows.wire() throws java.lang.IllegalStateException",
            "public boolean LegalRows.overlap() throws java.lang.IllegalStateException"));

    public static void main(String[] args) {
        Set<String> seen = new TreeSet<>();
        Set<String> publicNames = new TreeSet<>();
        for (Field field : LegalRows.class.getDeclaredFields()) {
            note(field, seen);
        }
        for (Constructor<?> constructor : LegalRows.class.getDeclaredConstructors()) {
            note(constructor, seen);
        }
        for (Method method : LegalRows.class.getDeclaredMethods()) {
            note(method, seen);
            if (Modifier.isPublic(method.getModifiers())) {
                publicNames.add(method.getName());
            }
        }
        Checks.compare("the face", FACE.toString(), seen.toString());
        Checks.due("public and final", Modifier.PUBLIC | Modifier.FINAL,
                () -> LegalRows.class.getModifiers());
        Checks.due("NONE", -1, () -> LegalRows.NONE);
        for (Class<?> inside : LegalRows.class.getDeclaredClasses()) {
            lookInside(inside, publicNames);
        }
        Checks.end("FaceTest");
    }

    private static void note(Member member, Set<String> seen) {
        if (!Modifier.isPrivate(member.getModifiers())) {
            seen.add(member.toString());
        }
    }

    private static void lookInside(Class<?> inside, Set<String> publicNames) {
        Checks.due(inside + " is static", true, () -> Modifier.isStatic(inside.getModifiers()));
        Checks.due(inside + " is not public", false, () -> Modifier.isPublic(inside.getModifiers()));
        for (Method method : inside.getDeclaredMethods()) {
            Checks.due(method + " has a name of its own", false,
                    () -> publicNames.contains(method.getName()));
        }
    }
}

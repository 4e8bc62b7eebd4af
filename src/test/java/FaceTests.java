import java.lang.reflect.Constructor;
import java.lang.reflect.Field;
import java.lang.reflect.Member;
import java.lang.reflect.Method;
import java.lang.reflect.Modifier;
import java.util.Arrays;
import java.util.TreeSet;

/** The class has the document's face and nothing else that can be seen. */
final class FaceTests {
    private static final String[] FACE = {
        "public static final int SqueezedVolume.CUT",
        "public SqueezedVolume()",
        "public int SqueezedVolume.enter(int,int) throws java.lang.IllegalStateException,"
            + "java.lang.IllegalArgumentException,java.lang.UnsupportedOperationException",
        "public int SqueezedVolume.put(int,int,int) throws java.lang.IllegalStateException,"
            + "java.util.NoSuchElementException,java.lang.IllegalArgumentException",
        "public int SqueezedVolume.close(int,int) throws java.lang.IllegalStateException,"
            + "java.util.NoSuchElementException,java.lang.IllegalArgumentException,"
            + "java.lang.UnsupportedOperationException",
        "public int SqueezedVolume.purge(int) throws java.lang.IllegalStateException,"
            + "java.util.NoSuchElementException",
        "public int SqueezedVolume.delete(int) throws java.lang.IllegalStateException,"
            + "java.util.NoSuchElementException",
        "public int SqueezedVolume.rename(int,int) throws java.lang.IllegalStateException,"
            + "java.lang.IllegalArgumentException,java.util.NoSuchElementException,"
            + "java.lang.UnsupportedOperationException",
        "public int SqueezedVolume.read(int,int) throws java.lang.IllegalStateException,"
            + "java.util.NoSuchElementException,java.lang.IllegalArgumentException",
        "public int SqueezedVolume.squeeze() throws java.lang.IllegalStateException",
        "public int SqueezedVolume.mount() throws java.lang.IllegalStateException",
        "public void SqueezedVolume.cutAfter(int) throws java.lang.IllegalStateException,"
            + "java.lang.IllegalArgumentException",
        "public int SqueezedVolume.entry(int,int) throws java.lang.IllegalStateException,"
            + "java.lang.IllegalArgumentException,java.lang.IndexOutOfBoundsException",
        "public int SqueezedVolume.entries() throws java.lang.IllegalStateException",
        "public int SqueezedVolume.free(boolean) throws java.lang.IllegalStateException",
        "public int SqueezedVolume.handle(int) throws java.lang.IllegalStateException",
        "public int SqueezedVolume.writes()",
        "public boolean SqueezedVolume.isOn()",
    };

    private FaceTests() {
    }

    static void runAll() {
        Check.run("the face", FaceTests::face);
        Check.run("no private method has a public one's name", FaceTests::names);
    }

    private static void face() {
        Class<SqueezedVolume> c = SqueezedVolume.class;
        TreeSet<String> seen = new TreeSet<>();
        for (Field field : c.getDeclaredFields()) {
            addVisible(seen, field, field.toGenericString());
        }
        for (Constructor<?> constructor : c.getDeclaredConstructors()) {
            addVisible(seen, constructor, constructor.toGenericString());
        }
        for (Method method : c.getDeclaredMethods()) {
            addVisible(seen, method, method.toGenericString());
        }
        Check.due("the face", String.join("\n", seen), String.join("\n", new TreeSet<>(Arrays.asList(FACE))));
        Check.due("the class is public and final", Modifier.toString(c.getModifiers()), "public final");
    }

    private static void addVisible(TreeSet<String> seen, Member member, String text) {
        if (!Modifier.isPrivate(member.getModifiers())) {
            seen.add(text);
        }
    }

    private static void names() {
        TreeSet<String> publics = new TreeSet<>();
        for (Method method : SqueezedVolume.class.getDeclaredMethods()) {
            if (Modifier.isPublic(method.getModifiers())) {
                publics.add(method.getName());
            }
        }
        for (Method method : SqueezedVolume.class.getDeclaredMethods()) {
            if (Modifier.isPrivate(method.getModifiers()) && publics.contains(method.getName())) {
                Check.due("the private method", method.getName(), "another name");
            }
        }
    }
}

import java.lang.reflect.Constructor;
import java.lang.reflect.Field;
import java.lang.reflect.Method;
import java.lang.reflect.Modifier;
import java.nio.file.Files;
import java.nio.file.Path;
import java.util.ArrayList;
import java.util.List;
import java.util.TreeSet;
import java.util.regex.Matcher;
import java.util.regex.Pattern;

/** "The public face", as it stands in ../shared/DOC.md, is the class's own: all of it and nothing beside it. */
public final class FaceTest {
    private static final Pattern FACE = Pattern.compile("(?s)## The public face\\s+```java\n(.*?)```");
    private static final Pattern MEMBER = Pattern.compile("(?m)^ {4}(public [^;]*);$");

    private static void due(String what, boolean so) {
        Due.due(what, so ? 1 : 0, 1);
    }

    /** A member as the document writes it, without the names of what it is given. */
    private static String plain(String member) {
        return member.replaceAll("\\b(int|long) \\w+(?=[,)])", "$1").replaceAll(" = .*", "");
    }

    private static String given(Class<?>[] types) {
        List<String> names = new ArrayList<>();
        for (Class<?> type : types) {
            names.add(type.getSimpleName());
        }
        return "(" + String.join(", ", names) + ")";
    }

    /** All that is not private, the compiler's own members aside. */
    private static TreeSet<String> ofClass() {
        TreeSet<String> members = new TreeSet<>();
        for (Field f : SeeSaws.class.getDeclaredFields()) {
            if (!Modifier.isPrivate(f.getModifiers()) && !f.isSynthetic()) {
                members.add(Modifier.toString(f.getModifiers()) + " " + f.getType().getSimpleName() + " " + f.getName());
            }
        }
        for (Method m : SeeSaws.class.getDeclaredMethods()) {
            if (!Modifier.isPrivate(m.getModifiers()) && !m.isSynthetic()) {
                members.add(Modifier.toString(m.getModifiers()) + " " + m.getReturnType().getSimpleName() + " "
                        + m.getName() + given(m.getParameterTypes()));
            }
        }
        for (Constructor<?> c : SeeSaws.class.getDeclaredConstructors()) {
            if (!Modifier.isPrivate(c.getModifiers()) && !c.isSynthetic()) {
                members.add(Modifier.toString(c.getModifiers()) + " SeeSaws" + given(c.getParameterTypes()));
            }
        }
        return members;
    }

    public static void main(String[] args) throws Exception {
        Matcher face = FACE.matcher(Files.readString(Path.of("../shared/DOC.md")));
        due("the document has a face", face.find());
        TreeSet<String> members = new TreeSet<>();
        for (Matcher m = MEMBER.matcher(face.group(1)); m.find();) {
            members.add(plain(m.group(1)));
        }
        Due.due("a constant, a constructor and 39 methods", members.size(), 41);
        TreeSet<String> own = ofClass();
        for (String member : members) {
            due("the class has: " + member, own.contains(member));
        }
        for (String member : own) {
            due("the document has: " + member, members.contains(member));
        }
        due("public final", Modifier.toString(SeeSaws.class.getModifiers()).equals("public final"));
        due("no package", SeeSaws.class.getPackageName().isEmpty());
        due("nothing above it", SeeSaws.class.getSuperclass() == Object.class
                && SeeSaws.class.getInterfaces().length == 0);
        Due.due("NONE", SeeSaws.NONE, -1);
        for (Class<?> inside : SeeSaws.class.getDeclaredClasses()) {
            due("static: " + inside, Modifier.isStatic(inside.getModifiers()));
            due("not public, not protected: " + inside,
                    !Modifier.isPublic(inside.getModifiers()) && !Modifier.isProtected(inside.getModifiers()));
        }
        Due.end();
    }
}

import java.lang.reflect.Constructor;
import java.lang.reflect.Field;
import java.lang.reflect.Member;
import java.lang.reflect.Method;
import java.lang.reflect.Modifier;
import java.util.ArrayList;
import java.util.Collections;
import java.util.List;

/** The public face: the members of the document, and none that others could see besides. */
public final class FaceTest {
    private static final Answers answers = new Answers();

    public static void main(String[] args) {
        Class<?> type = MvMedian.class;
        dueYes("public final class", Modifier.isPublic(type.getModifiers()) && Modifier.isFinal(type.getModifiers()));
        dueYes("no package", type.getPackageName().isEmpty());
        dueYes("no superclass of its own", type.getSuperclass() == Object.class);
        dueYes("no interface", type.getInterfaces().length == 0);
        dueYes("no nested class", type.getDeclaredClasses().length == 0);
        dueMembers(type);
        answers.finish();
    }

    private static void dueMembers(Class<?> type) {
        List<String> seen = new ArrayList<>();
        for (Constructor<?> constructor : type.getDeclaredConstructors()) {
            addVisible(seen, constructor, constructor.toString());
        }
        for (Method method : type.getDeclaredMethods()) {
            addVisible(seen, method, method.toString());
        }
        for (Field field : type.getDeclaredFields()) {
            addVisible(seen, field, field.toString());
        }
        Collections.sort(seen);
        List<String> want = List.of(
            "public MvMedian()",
            "public int MvMedian.code(int,int)",
            "public int MvMedian.left()",
            "public int MvMedian.predict(int)",
            "public int MvMedian.top(int)");
        dueYes("members " + seen + " are " + want, seen.equals(want));
    }

    private static void addVisible(List<String> seen, Member member, String text) {
        if (!Modifier.isPrivate(member.getModifiers())) {
            seen.add(text);
        }
    }

    private static void dueYes(String what, boolean holds) {
        answers.due(what + " (1 for yes)", holds ? 1 : 0, 1);
    }
}

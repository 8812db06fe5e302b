import java.lang.reflect.Constructor;
import java.lang.reflect.Field;
import java.lang.reflect.Member;
import java.lang.reflect.Method;
import java.lang.reflect.Modifier;
import java.util.ArrayList;
import java.util.Collections;
import java.util.List;

/** The public face: the members of the document, and none that others could see besides. */
public final class FaceTest {
    private static final Class<?> type = MvMedian.class;
    private static final Answers answers = new Answers();

    public static void main(String[] args) {
        answers.test("MvMedian is one public final class", FaceTest::isOneClass);
        answers.test("its visible members are those of the document", FaceTest::showsTheMembers);
        answers.test("there are no public constant fields", FaceTest::showsNoField);
        answers.finish();
    }

    private static void isOneClass() {
        answers.dueYes("public", Modifier.isPublic(type.getModifiers()));
        answers.dueYes("final", Modifier.isFinal(type.getModifiers()));
        answers.dueYes("no package", type.getPackageName().isEmpty());
        answers.dueYes("no superclass of its own", type.getSuperclass() == Object.class);
        answers.dueYes("no interface", type.getInterfaces().length == 0);
        answers.dueYes("no nested class", type.getDeclaredClasses().length == 0);
    }

    private static void showsTheMembers() {
        List<String> seen = new ArrayList<>();
        for (Constructor<?> constructor : type.getDeclaredConstructors()) {
            addVisible(seen, constructor, constructor.toString());
        }
        for (Method method : type.getDeclaredMethods()) {
            addVisible(seen, method, method.toString());
        }
        Collections.sort(seen);
        List<String> want = List.of(
            "public MvMedian()",
            "public int MvMedian.code(int,int)",
            "public int MvMedian.left()",
            "public int MvMedian.predict(int)",
            "public int MvMedian.top(int)");
        answers.dueYes("members " + seen + " are " + want, seen.equals(want));
    }

    private static void showsNoField() {
        List<String> seen = new ArrayList<>();
        for (Field field : type.getDeclaredFields()) {
            addVisible(seen, field, field.toString());
        }
        answers.dueYes("fields " + seen + " are none", seen.isEmpty());
    }

    private static void addVisible(List<String> seen, Member member, String text) {
        if (!Modifier.isPrivate(member.getModifiers())) {
            seen.add(text);
        }
    }
}

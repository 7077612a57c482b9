import java.lang.reflect.Constructor;
import java.lang.reflect.Field;
import java.lang.reflect.Member;
import java.lang.reflect.Method;
import java.lang.reflect.Modifier;
import java.util.TreeSet;

/** The class shows just the face that the document gives, and nothing else that is not private. */
public final class FaceTest {
    private static final String[] FACE = {
        "public FlatQueue()",
        "public boolean FlatQueue.delete(int)",
        "public boolean FlatQueue.insert(int)",
        "public boolean FlatQueue.member(int)",
        "public int FlatQueue.after(int)",
        "public int FlatQueue.before(int)",
        "public int FlatQueue.countBetween(int,int)",
        "public int FlatQueue.deleteBetween(int,int)",
        "public int FlatQueue.gapFrom(int)",
        "public int FlatQueue.greatest()",
        "public int FlatQueue.least()",
        "public int FlatQueue.nearest(int)",
        "public int FlatQueue.select(int)",
        "public int FlatQueue.size()",
        "public int FlatQueue.takeGreatest()",
        "public int FlatQueue.takeLeast()",
        "public static final int FlatQueue.NONE",
    };

    private static final TreeSet<String> shown = new TreeSet<>();

    public static void main(String[] args) {
        for (Constructor<?> constructor : FlatQueue.class.getDeclaredConstructors()) {
            show(constructor, constructor.toString());
        }
        for (Method method : FlatQueue.class.getDeclaredMethods()) {
            show(method, method.toString());
        }
        for (Field field : FlatQueue.class.getDeclaredFields()) {
            show(field, field.toString());
        }
        Check.due("the face", String.join("; ", shown), String.join("; ", FACE));
        Check.due("the class's modifiers", Modifier.toString(FlatQueue.class.getModifiers()), "public final");
        Check.due("NONE", FlatQueue.NONE, -1);
        Check.finish();
    }

    private static void show(Member member, String text) {
        if (!Modifier.isPrivate(member.getModifiers())) {
            shown.add(text);
        }
    }
}

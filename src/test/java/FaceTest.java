import java.lang.reflect.Constructor;
import java.lang.reflect.Field;
import java.lang.reflect.Method;
import java.lang.reflect.Modifier;
import java.util.Set;
import java.util.TreeSet;

/** The class has the members of the document's public face, and shows no others. */
public final class FaceTest {
    private static final Set<String> DUE = Set.of(
            "public static final int ThreeValued.NONE",
            "public ThreeValued(int)",
            "public int ThreeValued.logic()",
            "public boolean ThreeValued.setLogic(int)",
            "public int ThreeValued.feed(int,int)",
            "public int ThreeValued.back(int)",
            "public boolean ThreeValued.complete(int)",
            "public int ThreeValued.value(int,int)",
            "public int ThreeValued.find(int,int)",
            "public int ThreeValued.values(int)",
            "public boolean ThreeValued.valid(int)",
            "public int ThreeValued.findBoth(int,int)",
            "public boolean ThreeValued.entails()",
            "public boolean ThreeValued.below()",
            "public boolean ThreeValued.alike()",
            "public int ThreeValued.findApart(int,int)");

    public static void main(String[] args) {
        Set<String> shown = shownMembers();
        int wrong = 0;
        for (String member : DUE) {
            if (!shown.contains(member)) {
                wrong++;
                System.out.println("missing: " + member);
            }
        }
        for (String member : shown) {
            if (!DUE.contains(member)) {
                wrong++;
                System.out.println("not in the document: " + member);
            }
        }
        int modifiers = ThreeValued.class.getModifiers();
        if (!Modifier.isPublic(modifiers) || !Modifier.isFinal(modifiers)) {
            wrong++;
            System.out.println("the class is not public and final");
        }
        if (ThreeValued.class.getDeclaredClasses().length != 0) {
            wrong++;
            System.out.println("the class holds another class");
        }
        System.out.println(wrong == 0 ? "the face is as due" : wrong + " faults in the face");
        if (wrong != 0) {
            System.exit(1);
        }
    }

    private static Set<String> shownMembers() {
        Set<String> shown = new TreeSet<>();
        for (Field field : ThreeValued.class.getDeclaredFields()) {
            if (!Modifier.isPrivate(field.getModifiers())) {
                shown.add(field.toString());
            }
        }
        for (Constructor<?> constructor : ThreeValued.class.getDeclaredConstructors()) {
            if (!Modifier.isPrivate(constructor.getModifiers())) {
                shown.add(constructor.toString());
            }
        }
        for (Method method : ThreeValued.class.getDeclaredMethods()) {
            if (!Modifier.isPrivate(method.getModifiers())) {
                shown.add(method.toString());
            }
        }
        return shown;
    }
}

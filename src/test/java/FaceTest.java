import java.lang.reflect.Constructor;
import java.lang.reflect.Field;
import java.lang.reflect.Method;
import java.lang.reflect.Modifier;
import java.util.Set;
import java.util.TreeSet;

/** The class shows the document's public face and nothing else (LANGUAGE.md, rules 1 and 5). */
public final class FaceTest {
    private static final Set<String> DUE = Set.of(
        "public static final int DmDecomposer.BAD",
        "public DmDecomposer()",
        "public boolean DmDecomposer.edge(int,int,boolean)",
        "public boolean DmDecomposer.row(int,int)",
        "public int DmDecomposer.columnsOf(int)",
        "public int DmDecomposer.largest()",
        "public int DmDecomposer.looseRows()",
        "public int DmDecomposer.looseColumns()",
        "public int DmDecomposer.usable(int)",
        "public int DmDecomposer.forced(int)",
        "public int DmDecomposer.blocks()",
        "public int DmDecomposer.blockRows(int)",
        "public int DmDecomposer.cover()");

    private static Set<String> shown() {
        Set<String> shown = new TreeSet<>();
        for (Field field : DmDecomposer.class.getDeclaredFields()) {
            if (!Modifier.isPrivate(field.getModifiers())) {
                shown.add(field.toString());
            }
        }
        for (Constructor<?> constructor : DmDecomposer.class.getDeclaredConstructors()) {
            if (!Modifier.isPrivate(constructor.getModifiers())) {
                shown.add(constructor.toString());
            }
        }
        for (Method method : DmDecomposer.class.getDeclaredMethods()) {
            if (!Modifier.isPrivate(method.getModifiers())) {
                shown.add(method.toString());
            }
        }
        return shown;
    }

    private static int wrongStatics() {
        int wrong = 0;
        for (Field field : DmDecomposer.class.getDeclaredFields()) {
            boolean number = field.getType() == int.class || field.getType() == long.class;
            boolean constant = number && Modifier.isFinal(field.getModifiers());
            if (Modifier.isStatic(field.getModifiers()) && !constant) {
                wrong++;
                System.out.println(field + " is static and not a constant of int or long");
            }
        }
        return wrong;
    }

    public static void main(String[] args) {
        int wrong = wrongStatics();
        if (!shown().equals(DUE)) {
            wrong++;
            System.out.println("the public face is " + shown() + ", due is " + new TreeSet<>(DUE));
        }
        int modifiers = DmDecomposer.class.getModifiers();
        if (!Modifier.isPublic(modifiers) || !Modifier.isFinal(modifiers)) {
            wrong++;
            System.out.println("the class is not public and final");
        }
        System.out.println(wrong == 0 ? "the face is as due" : wrong + " faults of the face");
        if (wrong != 0) {
            System.exit(1);
        }
    }
}

import java.lang.reflect.Constructor;
import java.lang.reflect.Field;
import java.lang.reflect.Method;
import java.lang.reflect.Modifier;
import java.util.Arrays;
import java.util.Set;
import java.util.TreeSet;

/** The class shows the document's face and nothing else. */
public final class FaceTest {
    private static final Set<String> FACE = new TreeSet<>(Arrays.asList(
            "public static final int ScanMill.NONE",
            "public ScanMill()",
            "public int ScanMill.op(int,int,int,int)",
            "public int ScanMill.clear()",
            "public boolean ScanMill.registers(int)",
            "public int ScanMill.scan()",
            "public boolean ScanMill.live(int,int)",
            "public int ScanMill.value(int,int)",
            "public void ScanMill.start() throws java.lang.IllegalStateException",
            "public int ScanMill.run(int) throws java.lang.IllegalArgumentException,java.lang.IllegalStateException",
            "public int ScanMill.now(int) throws java.util.NoSuchElementException",
            "public int ScanMill.register(int) throws java.util.NoSuchElementException",
            "public int ScanMill.slot(int) throws java.util.NoSuchElementException",
            "public int ScanMill.output(int) throws java.util.NoSuchElementException",
            "public int ScanMill.total(int)"));

    private static Set<String> shown() {
        Set<String> shown = new TreeSet<>();
        for (Field field : ScanMill.class.getDeclaredFields()) {
            if (!Modifier.isPrivate(field.getModifiers())) {
                shown.add(field.toGenericString());
            }
        }
        for (Constructor<?> constructor : ScanMill.class.getDeclaredConstructors()) {
            shown.add(constructor.toGenericString());
        }
        for (Method method : ScanMill.class.getDeclaredMethods()) {
            if (!Modifier.isPrivate(method.getModifiers())) {
                shown.add(method.toGenericString());
            }
        }
        return shown;
    }

    public static void main(String[] args) {
        boolean right = true;
        if (!shown().equals(FACE)) {
            System.out.println("the face is " + shown() + ", due is " + FACE);
            right = false;
        }
        int modifiers = ScanMill.class.getModifiers();
        if (!Modifier.isPublic(modifiers) || !Modifier.isFinal(modifiers)) {
            System.out.println("the class is not public and final");
            right = false;
        }
        if (ScanMill.NONE != -1) {
            System.out.println("NONE is " + ScanMill.NONE + ", due is -1");
            right = false;
        }
        System.out.println(right ? "the face is as due" : "the face is not as due");
        if (!right) {
            System.exit(1);
        }
    }
}

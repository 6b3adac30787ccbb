import java.lang.reflect.Constructor;
import java.lang.reflect.Executable;
import java.lang.reflect.Field;
import java.lang.reflect.Method;
import java.lang.reflect.Modifier;
import java.util.Arrays;
import java.util.Set;
import java.util.TreeSet;

/** The face has what the document lists and shows nothing else. */
public final class FaceTest {
    private static final Set<String> FACE = new TreeSet<>(Arrays.asList(
            "public static final int NONE",
            "public SprinkleNets(int,int)",
            "public boolean wall(int,int,boolean) throws IllegalArgumentException",
            "public int reach(int) throws IllegalArgumentException",
            "public int place(int,int) throws IllegalArgumentException,IllegalStateException",
            "public boolean seen(int,int,int,int) throws IllegalArgumentException",
            "public int reached(int) throws IllegalArgumentException",
            "public int left(int) throws IllegalArgumentException",
            "public int dry(int,int) throws IllegalArgumentException",
            "public int best()",
            "public int size(int,int) throws IllegalArgumentException",
            "public int pipes(int) throws IllegalArgumentException",
            "public int pipe(int,int,int) throws IllegalArgumentException",
            "public int lacks(int,int) throws IllegalArgumentException",
            "public int worst(int) throws IllegalArgumentException"));

    private static String plain(String text) {
        return text.replace("java.lang.", "").replace("SprinkleNets.", "");
    }

    private static void add(Set<String> shown, Set<String> hidden, Executable one) {
        if (Modifier.isPrivate(one.getModifiers())) {
            hidden.add(one.getName());
        } else {
            shown.add(plain(one.toGenericString()));
        }
    }

    public static void main(String[] args) {
        Set<String> shown = new TreeSet<>();
        Set<String> hidden = new TreeSet<>();
        for (Field field : SprinkleNets.class.getDeclaredFields()) {
            if (!Modifier.isPrivate(field.getModifiers())) {
                shown.add(plain(field.toGenericString()));
            }
        }
        for (Constructor<?> one : SprinkleNets.class.getDeclaredConstructors()) {
            add(shown, hidden, one);
        }
        for (Method one : SprinkleNets.class.getDeclaredMethods()) {
            add(shown, hidden, one);
        }
        boolean good = shown.equals(FACE);
        if (!good) {
            System.out.println("the face is " + shown + ", due is " + FACE);
        }
        for (String name : hidden) {
            if (FACE.stream().anyMatch(line -> line.contains(" " + name + "("))) {
                System.out.println("a private method bears the name of a public one: " + name);
                good = false;
            }
        }
        int modifiers = SprinkleNets.class.getModifiers();
        if (!Modifier.isPublic(modifiers) || !Modifier.isFinal(modifiers)) {
            System.out.println("the class is to be public and final");
            good = false;
        }
        if (SprinkleNets.NONE != -1) {
            System.out.println("NONE is to be -1");
            good = false;
        }
        System.out.println(good ? "the face is the document's" : "the face is not the document's");
        if (!good) {
            System.exit(1);
        }
    }
}

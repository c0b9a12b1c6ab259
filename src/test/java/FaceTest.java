import java.lang.reflect.Constructor;
import java.lang.reflect.Field;
import java.lang.reflect.Method;
import java.lang.reflect.Modifier;
import java.util.Arrays;
import java.util.TreeSet;

/** The class has the document's face and nothing else that can be seen from outside. */
public final class FaceTest {
    private static final String[] FACE = {
        "public int spawn() throws IllegalStateException",
        "public int giveWay() throws IllegalStateException",
        "public int finish() throws IllegalStateException",
        "public int sleep(long) throws IllegalArgumentException,IllegalStateException",
        "public int channel(int) throws IllegalArgumentException,IllegalStateException",
        "public boolean release(int)",
        "public void alarm(int,long) throws IllegalArgumentException,IllegalStateException",
        "public boolean send(int,long) throws IllegalArgumentException,IllegalStateException,UnsupportedOperationException",
        "public boolean receive(int) throws IllegalArgumentException,IllegalStateException",
        "public void close(int) throws IllegalArgumentException,IllegalStateException,UnsupportedOperationException",
        "public int offer(int,boolean,long) throws IllegalArgumentException,IllegalStateException",
        "public boolean choose(int,boolean) throws IllegalArgumentException,IllegalStateException,UnsupportedOperationException",
        "public int gate(int,int) throws IllegalArgumentException,IllegalStateException",
        "public boolean enter(int) throws IllegalArgumentException,IllegalStateException,UnsupportedOperationException",
        "public boolean read(int) throws IllegalArgumentException,IllegalStateException",
        "public void leave(int) throws IllegalArgumentException,IllegalStateException,UnsupportedOperationException",
        "public void change(int,int) throws IllegalArgumentException,IllegalStateException,UnsupportedOperationException",
        "public int current()",
        "public int task(int,int) throws NoSuchElementException",
        "public long outcome(int) throws NoSuchElementException",
        "public int look(int,int) throws NoSuchElementException",
        "public int watch(int,int) throws NoSuchElementException",
        "public long clock()",
        "public int count(int)"
    };

    public static void main(String[] args) {
        Check.due("NONE", -1, TaskDesk.NONE);
        Check.due("is public and final", Modifier.PUBLIC | Modifier.FINAL, TaskDesk.class.getModifiers());
        methods();
        fieldsAndConstructors();
        nestedClasses();
        Check.end();
    }

    private static void methods() {
        TreeSet<String> face = new TreeSet<>(Arrays.asList(FACE));
        TreeSet<String> names = new TreeSet<>();
        for (Method method : TaskDesk.class.getDeclaredMethods()) {
            if (!Modifier.isPrivate(method.getModifiers())) {
                names.add(method.getName());
                String text = method.toString().replace("TaskDesk.", "").replaceAll("java\\.(lang|util)\\.", "");
                if (!face.remove(text)) {
                    Check.tell("not of the face: " + text);
                }
            }
        }
        if (!face.isEmpty()) {
            Check.tell("missing of the face: " + face);
        }
        for (Method method : TaskDesk.class.getDeclaredMethods()) {
            if (Modifier.isPrivate(method.getModifiers()) && names.contains(method.getName())) {
                Check.tell("a private method bears a public name: " + method);
            }
        }
    }

    private static void fieldsAndConstructors() {
        for (Field field : TaskDesk.class.getDeclaredFields()) {
            boolean hidden = Modifier.isPrivate(field.getModifiers());
            Check.due(field.getName() + " is private", !field.getName().equals("NONE"), hidden);
        }
        for (Constructor<?> made : TaskDesk.class.getDeclaredConstructors()) {
            Check.due("parameters of a constructor", 0, made.getParameterCount());
            Check.due("the constructor is public", true, Modifier.isPublic(made.getModifiers()));
        }
    }

    private static void nestedClasses() {
        for (Class<?> nested : TaskDesk.class.getDeclaredClasses()) {
            int is = nested.getModifiers();
            Check.due(nested + " is hidden", false, Modifier.isPublic(is) || Modifier.isProtected(is));
            Check.due(nested + " is static", true, Modifier.isStatic(is));
        }
    }
}

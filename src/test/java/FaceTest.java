import java.lang.reflect.Constructor;
import java.lang.reflect.Executable;
import java.lang.reflect.Field;
import java.lang.reflect.Method;
import java.lang.reflect.Modifier;
import java.util.Arrays;
import java.util.Set;
import java.util.TreeSet;

/** The class shows the document's face, and nothing else. */
public final class FaceTest {
    private static final String[] FACE = {
        "public static final int NONE",
        "public FacetSearch()",
        "public int feed(int, int, int, int, int) throws IllegalArgumentException, IllegalStateException",
        "public int clear()",
        "public int record() throws IllegalStateException",
        "public int word(int) throws NoSuchElementException, IllegalArgumentException, IllegalStateException",
        "public int facet(int, int, int) throws NoSuchElementException",
        "public boolean parent(int, int, int) throws NoSuchElementException",
        "public void span(int, int, int) throws NoSuchElementException, IllegalArgumentException",
        "public boolean right(int, int, boolean) throws NoSuchElementException",
        "public int ask(int) throws NoSuchElementException",
        "public int hit(int, int) throws NoSuchElementException",
        "public int score(int, int) throws NoSuchElementException",
        "public int counted(int, int) throws NoSuchElementException",
        "public int far(int, int) throws NoSuchElementException",
        "public int like(int, int) throws NoSuchElementException",
        "public int letter(int, int, int) throws NoSuchElementException",
        "public int count(int) throws IllegalArgumentException",
    };

    public static void main(String[] args) {
        Set<String> shown = new TreeSet<>();
        Set<String> publicNames = new TreeSet<>();
        Set<String> privateNames = new TreeSet<>();
        for (Field field : FacetSearch.class.getDeclaredFields()) {
            if (!Modifier.isPrivate(field.getModifiers())) {
                shown.add(Modifier.toString(field.getModifiers()) + " " + field.getType().getSimpleName() + " " + field.getName());
            }
        }
        for (Constructor<?> made : FacetSearch.class.getDeclaredConstructors()) {
            shown.add(Modifier.toString(made.getModifiers()) + " FacetSearch" + rest(made));
        }
        for (Method method : FacetSearch.class.getDeclaredMethods()) {
            boolean hidden = Modifier.isPrivate(method.getModifiers());
            (hidden ? privateNames : publicNames).add(method.getName());
            if (!hidden) {
                shown.add(Modifier.toString(method.getModifiers()) + " " + method.getReturnType().getSimpleName()
                        + " " + method.getName() + rest(method));
            }
        }
        Set<String> due = new TreeSet<>(Arrays.asList(FACE));
        privateNames.retainAll(publicNames);
        int modifiers = FacetSearch.class.getModifiers();
        boolean right = shown.equals(due) && privateNames.isEmpty() && FacetSearch.NONE == -1
                && Modifier.isPublic(modifiers) && Modifier.isFinal(modifiers);
        if (!right) {
            System.out.println("shown: " + shown + "\ndue: " + due + "\nprivate names of public ones: " + privateNames);
            System.exit(1);
        }
        System.out.println("the face is as due");
    }

    private static String rest(Executable of) {
        String parameters = names(of.getParameterTypes());
        String thrown = names(of.getExceptionTypes());
        return "(" + parameters + ")" + (thrown.isEmpty() ? "" : " throws " + thrown);
    }

    private static String names(Class<?>[] types) {
        StringBuilder all = new StringBuilder();
        for (Class<?> type : types) {
            all.append(all.length() == 0 ? "" : ", ").append(type.getSimpleName());
        }
        return all.toString();
    }
}

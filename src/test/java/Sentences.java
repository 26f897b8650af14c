import java.lang.reflect.InvocationTargetException;
import java.lang.reflect.Method;
import java.util.ArrayList;
import java.util.Comparator;
import java.util.List;

/** All tests of single sentences of the document. */
final class Sentences {
    private static final Class<?>[] HOLDERS = {
        TextSentences.class, TapeSentences.class, SlotSentences.class, StateSentences.class, LoadSentences.class,
        ShadowSentences.class, LogSentences.class, AfterSentences.class};

    private Sentences() {
    }

    static List<Method> all() {
        List<Method> all = new ArrayList<>();
        for (Class<?> holder : HOLDERS) {
            for (Method method : holder.getDeclaredMethods()) {
                if (method.isAnnotationPresent(Says.class)) {
                    all.add(method);
                }
            }
        }
        all.sort(Comparator.comparing(Sentences::nameOf));
        return all;
    }

    static String nameOf(Method method) {
        return method.getDeclaringClass().getSimpleName() + "." + method.getName();
    }

    /** How many answers of one test are not as due; what is thrown counts as one. */
    static int wrongOf(Method method, boolean isLoud) throws IllegalAccessException {
        Says says = method.getAnnotation(Says.class);
        Due due = new Due(says.where() + " (" + says.words() + ") " + nameOf(method), isLoud);
        try {
            method.invoke(null, due);
        } catch (InvocationTargetException thrown) {
            due.same("a call that threw " + thrown.getCause(), true, false);
        }
        return due.wrong();
    }

    /** For MutantsTest, which has this class anew for each mutant. */
    static int wrongOf(String name) throws IllegalAccessException {
        for (Method method : all()) {
            if (nameOf(method).equals(name)) {
                return wrongOf(method, false);
            }
        }
        return 0;
    }
}

import java.lang.reflect.Constructor;
import java.lang.reflect.Field;
import java.lang.reflect.Method;
import java.lang.reflect.Modifier;
import java.util.Set;
import java.util.TreeSet;

/** The class's face: what the document lists and nothing else that can be seen. */
final class FaceTest {
    public static void main(String[] args) {
        Checks checks = new Checks();
        Class<MacroForge> face = MacroForge.class;
        checks.same("modifiers", Modifier.PUBLIC | Modifier.FINAL, face.getModifiers());
        checks.same("NONE", -99, MacroForge.NONE);

        Set<String> seen = new TreeSet<>();
        Set<String> publicNames = new TreeSet<>();
        Set<String> privateNames = new TreeSet<>();
        for (Method method : face.getDeclaredMethods()) {
            if (Modifier.isPrivate(method.getModifiers())) {
                privateNames.add(method.getName());
            } else {
                publicNames.add(method.getName());
                seen.add(method.toGenericString());
            }
        }
        for (Field field : face.getDeclaredFields()) {
            if (!Modifier.isPrivate(field.getModifiers())) {
                seen.add(field.toGenericString());
            }
        }
        for (Constructor<?> constructor : face.getDeclaredConstructors()) {
            seen.add(constructor.toGenericString());
        }
        checks.same("the face", new TreeSet<>(due()), seen);
        privateNames.retainAll(publicNames);
        checks.same("private methods with public names", Set.of(), privateNames);
        for (Class<?> inside : face.getDeclaredClasses()) {
            boolean fits = Modifier.isStatic(inside.getModifiers())
                    && !Modifier.isPublic(inside.getModifiers())
                    && !Modifier.isProtected(inside.getModifiers());
            checks.same(inside.getName() + " is static and not seen", true, fits);
        }
        checks.end();
    }

    private static Set<String> due() {
        String argument = "java.lang.IllegalArgumentException";
        String state = "java.lang.IllegalStateException";
        String unsupported = "java.lang.UnsupportedOperationException";
        return Set.of(
                "public static final int MacroForge.NONE",
                "public MacroForge()",
                "public boolean MacroForge.type(char)",
                "public int MacroForge.rule() throws " + argument + "," + unsupported,
                "public int MacroForge.forget(char)",
                "public int MacroForge.rules()",
                "public int MacroForge.expand(int) throws " + argument + "," + state + ","
                        + unsupported,
                "public int MacroForge.replaced()",
                "public int MacroForge.mark(int)",
                "public int MacroForge.depth()");
    }
}

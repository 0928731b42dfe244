import java.io.IOException;
import java.lang.reflect.Constructor;
import java.lang.reflect.Field;
import java.lang.reflect.Method;
import java.lang.reflect.Modifier;
import java.nio.file.Files;
import java.nio.file.Path;
import java.util.Set;
import java.util.TreeSet;
import java.util.regex.Matcher;
import java.util.regex.Pattern;

/** The class has the document's face and no more, and keeps those rules of LANGUAGE.md that can be seen from outside. */
final class LanguageTest {
    private static final Set<String> FACE = Set.of(
            "int feed(int,int,int,int,int)", "int text(int,int)", "int beast(int,int,int,int)",
            "boolean measure(int,int,int)", "int lets(int,int)", "boolean enter(int,int)",
            "boolean protest(int,int)", "boolean bar(int,int)", "boolean order(int,int)",
            "int placed(int,int)", "int swaps(int)", "int ring(int,int)", "boolean cut(int,int,int)",
            "int card(int)", "int reasons(int,int)", "boolean sand(int)", "int hour(int)", "int team(int)",
            "int price(int)", "int look(int,int)", "int count(int)");
    private static final Set<String> FORBIDDEN = Set.of("throw", "throws", "try", "catch", "finally", "synchronized",
            "assert", "volatile", "native", "package", "yield", "hashCode", "Object", "System", "Random", "Thread");
    /** All of the library that the class uses; rule 4 lists what it could use. */
    private static final Set<String> LIBRARY = Set.of("Arrays", "Arrays.fill", "Math.max", "Math.min", "Integer.bitCount");

    private LanguageTest() {
    }

    public static void main(String[] args) throws IOException {
        String source = Files.readString(Path.of("src/main/java/CattleShow.java"));
        face();
        methodsAndFields(CattleShow.class);
        innerClasses();
        lengths(source);
        words(source);
        Check.end("LanguageTest");
    }

    private static String signature(Method method) {
        StringBuilder text = new StringBuilder(method.getReturnType().getName());
        text.append(' ').append(method.getName()).append('(');
        Class<?>[] parameters = method.getParameterTypes();
        for (int i = 0; i < parameters.length; i++) {
            text.append(i > 0 ? "," : "").append(parameters[i].getName());
        }
        return text.append(')').toString();
    }

    private static void face() {
        Set<String> seen = new TreeSet<>();
        for (Method method : CattleShow.class.getDeclaredMethods()) {
            if (!Modifier.isPrivate(method.getModifiers())) {
                seen.add(signature(method));
            }
        }
        Check.due("methods of the face: " + seen, seen.equals(FACE), true);
        Constructor<?>[] made = CattleShow.class.getDeclaredConstructors();
        Check.due("constructors", made.length, 1);
        Check.due("public constructor", Modifier.isPublic(made[0].getModifiers()), true);
        Check.due("constructor's parameters", made[0].getParameterCount(), 0);
        Check.due("final", Modifier.isFinal(CattleShow.class.getModifiers()), true);
        for (Field field : CattleShow.class.getDeclaredFields()) {
            boolean open = !Modifier.isPrivate(field.getModifiers());
            Check.due("open field " + field.getName(), open, field.getName().equals("NONE"));
        }
    }

    private static Set<String> publicNames() {
        Set<String> names = new TreeSet<>();
        for (Method method : CattleShow.class.getMethods()) {
            names.add(method.getName());
        }
        return names;
    }

    private static void innerClasses() {
        Class<?>[] inside = CattleShow.class.getDeclaredClasses();
        Check.due("at most twelve classes", inside.length <= 11, true);
        for (Class<?> inner : inside) {
            Check.due("static " + inner, Modifier.isStatic(inner.getModifiers()), true);
            Check.due("not public " + inner, Modifier.isPublic(inner.getModifiers()), false);
            methodsAndFields(inner);
        }
    }

    private static void methodsAndFields(Class<?> owner) {
        for (Method method : owner.getDeclaredMethods()) {
            boolean ofFace = owner == CattleShow.class && Modifier.isPublic(method.getModifiers());
            Check.due("a name of the face: " + method, publicNames().contains(method.getName()), ofFace);
            Check.due("parameters of " + method, method.getParameterCount() <= 7, true);
        }
        int fields = 0;
        for (Field field : owner.getDeclaredFields()) {
            boolean isStatic = Modifier.isStatic(field.getModifiers());
            Check.due("static state " + field, isStatic && !Modifier.isFinal(field.getModifiers()), false);
            fields += isStatic ? 0 : 1;
        }
        Check.due("at most twenty fields in " + owner, fields <= 20, true);
    }

    /** A method begins at a line that ends its head and goes on to the brace that stands as far in as the head. */
    private static void lengths(String source) {
        Matcher method = Pattern.compile("(?ms)^( +)(?! )[^\n;=]*\\) \\{\n.*?^\\1\\}$").matcher(source);
        int methods = 0;
        while (method.find()) {
            long lines = method.group().lines().count();
            Check.due("lines of " + method.group().lines().findFirst().orElse("").trim(), lines <= 60, true);
            methods++;
        }
        Check.due("methods were found", methods > FACE.size(), true);
    }

    private static void words(String source) {
        String code = source.replaceAll("(?s)/\\*.*?\\*/", " ").replaceAll("//[^\n]*", " ");
        Matcher word = Pattern.compile("[A-Za-z_]+").matcher(code);
        while (word.find()) {
            Check.due("the word " + word.group(), FORBIDDEN.contains(word.group()), false);
        }
        for (String sign : new String[] {"->", "::", "@", "static {"}) {
            Check.due("the sign " + sign, code.contains(sign), false);
        }
        Matcher library = Pattern.compile("\\b(?:Integer|Long|Math|Arrays|System|String|StringBuilder|List)\\b[.\\w]*").matcher(code);
        while (library.find()) {
            Check.due("of the library " + library.group(), LIBRARY.contains(library.group()), true);
        }
        Matcher brought = Pattern.compile("(?m)^import (.*);$").matcher(code);
        while (brought.find()) {
            Check.due("import " + brought.group(1), brought.group(1).equals("java.util.Arrays"), true);
        }
    }
}

import java.lang.reflect.Constructor;
import java.lang.reflect.Field;
import java.lang.reflect.Method;
import java.lang.reflect.Modifier;
import java.nio.file.Files;
import java.nio.file.Path;
import java.util.Set;
import java.util.TreeSet;

/** The face of the document, and what can be seen of the rules of LANGUAGE.md from outside. */
public final class LanguageTest {
    private static final Due DUE = new Due("LanguageTest");
    private static final Set<String> FACE = Set.of(
            "int put(int,long,int)", "int clear(int)", "int at(int,int)", "int copy(int,int,int,int)",
            "int table(int,int)", "int share(int,int,int)", "int learn(int,int)", "int shares(int,int,int,boolean)",
            "long cost(int,int,int)", "int as(int,int)", "int pack(int,int,int)", "int ahead(int,int,int)",
            "int take(int)", "int block(int)", "int alter(int,int)", "int more(long,int)", "int search(int)",
            "int step(int,int)", "int mark(int)", "int skip(int)", "int tell(int)", "int check()", "int keep()",
            "int back()", "int told(int)");
    private static final String[] FORBIDDEN = {"throw", "try", "catch", "finally", "synchronized", "assert", "native",
        "volatile", "Exact", "->", "::", "package", "System.out", "Random", "Thread", "hashCode", "toString"};

    public static void main(String[] args) throws Exception {
        face();
        classesInside();
        source();
        DUE.end();
    }

    private static String sign(Method method) {
        StringBuilder text = new StringBuilder(method.getReturnType().getName() + " " + method.getName() + "(");
        for (Class<?> type : method.getParameterTypes()) {
            text.append(text.charAt(text.length() - 1) == '(' ? "" : ",").append(type.getName());
        }
        return text.append(")").toString();
    }

    private static Set<String> names() {
        Set<String> names = new TreeSet<>();
        for (String method : FACE) {
            names.add(method.substring(method.indexOf(' ') + 1, method.indexOf('(')));
        }
        return names;
    }

    private static void face() {
        Class<?> face = BalanceCoder.class;
        DUE.holds("public and final", Modifier.isPublic(face.getModifiers()) && Modifier.isFinal(face.getModifiers()));
        Set<String> found = new TreeSet<>();
        for (Method method : face.getDeclaredMethods()) {
            if (Modifier.isPrivate(method.getModifiers())) {
                DUE.holds("rule 1: " + method, !names().contains(method.getName()));
            } else {
                DUE.holds("public: " + method, Modifier.isPublic(method.getModifiers()));
                found.add(sign(method));
            }
        }
        DUE.holds("the methods are those of the document: " + found, found.equals(new TreeSet<>(FACE)));
        Constructor<?>[] constructors = face.getDeclaredConstructors();
        DUE.due("constructors", constructors.length, 1);
        DUE.holds("rule 1: constructor", Modifier.isPublic(constructors[0].getModifiers())
                && constructors[0].getParameterCount() == 0);
        for (Field field : face.getDeclaredFields()) {
            DUE.holds("rule 1: " + field, Modifier.isPrivate(field.getModifiers()));
        }
    }

    private static void classesInside() {
        DUE.holds("rule 11: classes", BalanceCoder.class.getDeclaredClasses().length < 12);
        for (Class<?> inside : BalanceCoder.class.getDeclaredClasses()) {
            int modifiers = inside.getModifiers();
            DUE.holds("rule 1: " + inside, Modifier.isStatic(modifiers)
                    && !Modifier.isPublic(modifiers) && !Modifier.isProtected(modifiers));
            int fields = 0;
            for (Field field : inside.getDeclaredFields()) {
                boolean fixed = Modifier.isStatic(field.getModifiers());
                fields += fixed ? 0 : 1;
                DUE.holds("rule 5: " + field, !fixed || Modifier.isFinal(field.getModifiers()));
            }
            DUE.holds("rule 11: fields of " + inside, fields <= 20);
            for (Method method : inside.getDeclaredMethods()) {
                DUE.holds("rule 1: " + method, !names().contains(method.getName()));
                DUE.holds("rule 11: " + method, method.getParameterCount() <= 7);
            }
        }
    }

    private static void source() throws Exception {
        String source = Files.readString(Path.of("src/main/java/BalanceCoder.java"));
        String code = source.replaceAll("(?s)/\\*.*?\\*/", "").replaceAll("//[^\n]*", "");
        for (String word : FORBIDDEN) {
            boolean isWord = Character.isLetter(word.charAt(0));
            String pattern = isWord ? "(?s).*\\b" + word.replace(".", "\\.") + "\\b.*" : null;
            DUE.holds("no " + word, isWord ? !code.matches(pattern) : !code.contains(word));
        }
        methodsAreShort(code.split("\n"));
        for (String line : code.split("\n")) {
            if (line.startsWith("import")) {
                DUE.holds("rule 4: " + line, line.equals("import java.util.Arrays;"));
            }
            DUE.holds("rule 9: " + line, !line.matches(".*\\bwhile\\b.*"));
        }
    }

    /** A method begins with a line that opens it, at the depth of a member, and ends where that depth comes again. */
    private static void methodsAreShort(String[] lines) {
        int methods = 0;
        for (int first = 0; first < lines.length; first++) {
            if (lines[first].matches("( {4}| {8})[a-zA-Z].*\\) \\{") && !lines[first].matches(" *(if|for|switch) .*")) {
                String end = lines[first].replaceAll("\\S.*", "") + "}";
                int last = first;
                for (; last < lines.length - 1 && !lines[last].equals(end); last++) {
                }
                DUE.holds("rule 11: " + lines[first], last - first < 60);
                methods++;
            }
        }
        DUE.holds("rule 11: methods are found: " + methods, methods > 50);
    }
}

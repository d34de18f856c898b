import java.lang.reflect.Constructor;
import java.lang.reflect.Field;
import java.lang.reflect.Method;
import java.lang.reflect.Modifier;
import java.nio.file.Files;
import java.nio.file.Path;
import java.util.Arrays;
import java.util.Set;
import java.util.TreeSet;
import java.util.regex.Matcher;
import java.util.regex.Pattern;

/** The public face of the document, and what of the language's rules can be seen from outside and in the source. */
public final class FaceTest {
    private static final String[] FACE = {"add(int,int)int", "at(int,int)int", "begin(int,int,int)int",
        "bucket(int,int,int)long", "count(int)int", "decode()int", "decoded(int,int)int", "find(int,int,int)int",
        "greedy(int,int,int)int", "judge(int)int", "miss(int,int,int,int)int", "powers(int)int",
        "put(int,int,int)int", "row(int,int)int", "set(int,int,int)int", "sketch(int,int)int", "sum(int,int,int)int",
        "tell(int,int)int", "told(int,int)int"};
    private static int wrong = 0;

    private static void check(String what, boolean holds) {
        if (!holds) {
            wrong++;
            System.out.println("not so: " + what);
        }
    }

    public static void main(String[] args) throws Exception {
        face();
        rules(Files.readString(Path.of("src/main/java/FewThatMatter.java")));
        anyNumbers();
        System.out.println(wrong == 0 ? "the face and the rules hold" : wrong + " things are not so");
        if (wrong != 0) {
            System.exit(1);
        }
    }

    private static void face() {
        Class<?> type = FewThatMatter.class;
        check("the class is public and final",
            Modifier.isPublic(type.getModifiers()) && Modifier.isFinal(type.getModifiers()));
        Set<String> open = new TreeSet<>();
        Set<String> openNames = new TreeSet<>();
        for (Method method : type.getDeclaredMethods()) {
            if (!Modifier.isPrivate(method.getModifiers())) {
                open.add(signature(method));
                openNames.add(method.getName());
                check(method.getName() + " is public and no more", method.getModifiers() == Modifier.PUBLIC);
            }
        }
        check("the public methods: " + open, open.equals(new TreeSet<>(Arrays.asList(FACE))));
        Constructor<?>[] constructors = type.getDeclaredConstructors();
        check("one public constructor without arguments", constructors.length == 1
            && constructors[0].getParameterCount() == 0 && Modifier.isPublic(constructors[0].getModifiers()));
        fieldsOf(type, Set.of("BAD", "NO", "FULL", "NONE"));
        hiddenNames(type, openNames);
        check("twelve classes at most", type.getDeclaredClasses().length <= 11);
        for (Class<?> inside : type.getDeclaredClasses()) {
            check(inside + " is static", Modifier.isStatic(inside.getModifiers()) || inside.isInterface());
            hiddenNames(inside, openNames);
            for (Field field : inside.getDeclaredFields()) {
                check("static " + field + " is final",
                    !Modifier.isStatic(field.getModifiers()) || Modifier.isFinal(field.getModifiers()));
            }
        }
    }

    private static String signature(Method method) {
        StringBuilder text = new StringBuilder(method.getName()).append('(');
        for (int i = 0; i < method.getParameterCount(); i++) {
            text.append(i == 0 ? "" : ",").append(method.getParameterTypes()[i].getName());
        }
        return text.append(')').append(method.getReturnType().getName()).toString();
    }

    private static void fieldsOf(Class<?> type, Set<String> constants) {
        int open = 0;
        for (Field field : type.getDeclaredFields()) {
            if (!Modifier.isPrivate(field.getModifiers())) {
                open++;
                check(field + " is a constant of the document", constants.contains(field.getName())
                    && field.getModifiers() == (Modifier.PUBLIC | Modifier.STATIC | Modifier.FINAL)
                    && field.getType() == int.class);
            }
            check("static " + field + " is final",
                !Modifier.isStatic(field.getModifiers()) || Modifier.isFinal(field.getModifiers()));
        }
        check("as many constants as the document has", open == constants.size());
    }

    private static void hiddenNames(Class<?> type, Set<String> openNames) {
        for (Method method : type.getDeclaredMethods()) {
            boolean ofTheFace = type == FewThatMatter.class && Modifier.isPublic(method.getModifiers());
            check(method + " bears a name of its own", ofTheFace || !openNames.contains(method.getName()));
            check(method + " takes seven parameters at most", method.getParameterCount() <= 7);
        }
    }

    private static void rules(String source) {
        String code = source.replaceAll("(?s)/\\*.*?\\*/", " ").replaceAll("//[^\n]*", " ");
        String[] words = {"throw", "throws", "try", "catch", "synchronized", "assert", "import", "package", "protected",
            "volatile", "native", "Object", "Thread", "System\\.(?!arraycopy)\\w+", "\\w+Exact", "random", "hashCode",
            "toString", "equals"};
        for (String word : words) {
            check("the source has no " + word, !Pattern.compile("\\b" + word + "\\b").matcher(code).find());
        }
        check("no lambda", !code.contains("->"));
        check("no method reference", !code.contains("::"));
        Matcher made = Pattern.compile("\\bnew\\s+(\\w+)\\s*([\\[(])").matcher(code);
        while (made.find()) {
            check("arrays are of numbers: new " + made.group(1),
                made.group(2).equals("(") || Set.of("int", "long").contains(made.group(1)));
        }
        int lines = 0;
        for (String line : code.split("\n")) {
            boolean head = line.matches("^ {4}( {4})?(private |public |static )*[\\w\\[\\]]+ \\w+\\(.*\\) \\{\\s*");
            lines = head ? 0 : lines + 1;
            check("methods stay short", lines <= 60 || !line.matches("^ {8}( {4})?\\S.*"));
        }
    }

    /** Every call with all sorts of numbers, in the widest and the narrowest state: none may throw. */
    private static void anyNumbers() {
        int[] odd = {Integer.MIN_VALUE, Integer.MIN_VALUE + 1, -1001, -2, -1, 0, 1, 2, 3, 4, 5, 6, 8, 11, 12, 31, 32, 33,
            96, 97, 100, 1000, 999999, 1000000, Integer.MAX_VALUE};
        for (int a : odd) {
            for (int b : odd) {
                for (int c : odd) {
                    FewThatMatter x = new FewThatMatter();
                    callAll(x, a, b, c);
                    x.begin(97, 6, 12);
                    x.sketch(4, 32);
                    callAll(x, a, b, c);
                }
            }
        }
    }

    private static void callAll(FewThatMatter x, int a, int b, int c) {
        x.set(a, b, c);
        x.put(a, b, c);
        x.sum(a, b, c);
        x.powers(a);
        x.at(a, b);
        x.row(a, b);
        x.told(a, b);
        x.tell(a, b);
        x.find(a, b, c);
        x.miss(a, b, c, a);
        x.greedy(a, b, c);
        x.add(a, b);
        x.decode();
        x.decoded(a, b);
        x.bucket(a, b, c);
        x.count(a);
        x.judge(a);
        x.sketch(a, b);
        x.begin(a, b, c);
    }
}

import java.io.IOException;
import java.lang.reflect.Constructor;
import java.lang.reflect.Field;
import java.lang.reflect.Method;
import java.lang.reflect.Modifier;
import java.nio.charset.StandardCharsets;
import java.nio.file.Files;
import java.nio.file.Path;
import java.util.Arrays;
import java.util.Set;
import java.util.TreeSet;
import java.util.regex.Matcher;
import java.util.regex.Pattern;
import java.util.stream.Collectors;

/** The public face of the document, and those rules of LANGUAGE.md that can be looked at. */
public final class FaceTest {
    private static final String FACE = "int letter(int) int hill() int person(int,int) int speaks(int) "
        + "int befriends(int,int) int pours(int,int) int cans(int,int) int water(int) int flow(int) "
        + "int turn(int,int,int) int hours(int) int hasThen(int,int) int then(int,int) int dry(int) int empty() "
        + "int flowBest(int) int canBest(int,int) int friendBest(int,int) int hush(int) int fewest(int) int word(int) "
        + "int send(int,int) int next() int richest(int) int quiet(int) int thirst() int lasts(int) int carries(int) "
        + "int two(int,int,int) long sneeze(int,int,int,int,int) long mean(int) int whatIs(int,int) int row(int) "
        + "int judge() int clear() int lots(int,int,int) int image() int on() int count(int)";
    private static final Path SOURCE = Path.of("src/main/java/WellOfTheSilent.java");
    private static final Check check = new Check();

    public static void main(String[] args) throws IOException {
        face();
        names();
        fields();
        words();
        check.end();
    }

    private static void face() {
        Class<?> type = WellOfTheSilent.class;
        check.due("public and final", type.getModifiers(), Modifier.PUBLIC | Modifier.FINAL);
        Set<String> seen = new TreeSet<>();
        for (Method method : type.getDeclaredMethods()) {
            if (!Modifier.isPrivate(method.getModifiers())) {
                check.due(method + " is public and no more", method.getModifiers(), Modifier.PUBLIC);
                seen.add(told(method));
            }
        }
        Set<String> want = new TreeSet<>(Arrays.asList(FACE.split(" (?=int |long )")));
        check.holds("the methods are " + want + ", seen are " + seen, want.equals(seen));
        Constructor<?>[] constructors = type.getDeclaredConstructors();
        check.due("constructors", constructors.length, 1);
        check.due("public constructor", constructors[0].getModifiers(), Modifier.PUBLIC);
        check.due("its parameters", constructors[0].getParameterCount(), 0);
    }

    private static String told(Method method) {
        String parameters = Arrays.stream(method.getParameterTypes()).map(Class::getName).collect(Collectors.joining(","));
        return method.getReturnType().getName() + " " + method.getName() + "(" + parameters + ")";
    }

    private static void names() {
        Set<String> open = Arrays.stream(WellOfTheSilent.class.getDeclaredMethods())
            .filter(m -> Modifier.isPublic(m.getModifiers())).map(Method::getName).collect(Collectors.toSet());
        for (Method method : WellOfTheSilent.class.getDeclaredMethods()) {
            check.holds(method + " has a name of its own",
                Modifier.isPublic(method.getModifiers()) || !open.contains(method.getName()));
            check.holds(method + " takes at most seven", method.getParameterCount() <= 7);
        }
        for (Class<?> inside : WellOfTheSilent.class.getDeclaredClasses()) {
            check.holds(inside + " is static", Modifier.isStatic(inside.getModifiers()));
            for (Method method : inside.getDeclaredMethods()) {
                check.holds(method + " has a name of its own", !open.contains(method.getName()));
                check.holds(method + " takes at most seven", method.getParameterCount() <= 7);
            }
        }
    }

    private static void fields() {
        for (Field field : WellOfTheSilent.class.getDeclaredFields()) {
            check.holds(field + " is private", Modifier.isPrivate(field.getModifiers()));
            check.holds(field + " is final if static",
                !Modifier.isStatic(field.getModifiers()) || Modifier.isFinal(field.getModifiers()));
        }
    }

    private static void words() throws IOException {
        String source = Files.readString(SOURCE, StandardCharsets.US_ASCII);
        String code = source.replaceAll("(?s)/\\*.*?\\*/", "").replaceAll("//[^\n]*", "");
        String[] barred = {"\\bthrow\\b", "\\btry\\b", "\\bcatch\\b", "\\bsynchronized\\b", "\\bassert\\b", "\\bimport\\b",
            "\\bpackage\\b", "->", "::", "Exact\\b", "\\bSystem\\.(?!arraycopy)", "\\bRandom\\b", "\\bThread\\b",
            "\\bdouble\\b", "\\bfloat\\b", "\\bprotected\\b"};
        for (String word : barred) {
            Matcher matcher = Pattern.compile(word).matcher(code);
            check.holds("the source is without " + word, !matcher.find());
        }
        check.due("public members", Pattern.compile("\\bpublic\\b").matcher(code).results().count(), 41);
    }
}

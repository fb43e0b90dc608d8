import java.io.IOException;
import java.lang.reflect.Constructor;
import java.lang.reflect.Field;
import java.lang.reflect.Method;
import java.lang.reflect.Modifier;
import java.nio.file.Files;
import java.nio.file.Path;
import java.util.ArrayList;
import java.util.List;
import java.util.Set;
import java.util.TreeSet;
import java.util.regex.Matcher;
import java.util.regex.Pattern;

/** What of LANGUAGE.md can be seen from outside: the face, words that may not stand, how long methods are. */
public final class LanguageTest {
    private static final String FACE = "state(int)int set(int,int)boolean feast(int,int)int forge(int,int)int cut(int,int)int "
        + "join(int,int)int sell(int)int days(int)int feed(int,int,int,int,int)int end(int)boolean text(int)int fault(int)int "
        + "remain(int,int)int kind(int,int)int left(int,int,boolean)int want(int,int)int book(int,int)int goes(int,int)int "
        + "joins(int,int,int)int most(int,int,int)int piece(int,int)int cuts(int,int)int stalls(int)int test(int,int)int "
        + "forged(int,int,int)int lookAt(int)int crumbs(int,int)int cooks(int)int waits(int,int)int limit(int)int "
        + "dusk(int,int,int)int trade(int,int,int,int)int ring(int,int)int back(int)int undo()boolean image(boolean)boolean look(int)int";
    private static final Pattern METHOD = Pattern.compile("^ +(?:(?:public|private|static|final) )*(?:[\\w\\[\\]]+ )?(\\w+)\\(([^()]*)\\) \\{$");

    public static void main(String[] args) throws IOException {
        theFace();
        List<String> lines = Files.readAllLines(Path.of("src/main/java/CrustMarket.java"));
        words(lines);
        methods(lines);
        Check.finish("LanguageTest");
    }

    private static void theFace() {
        Set<String> found = new TreeSet<>();
        Set<String> names = new TreeSet<>();
        for (Method m : CrustMarket.class.getDeclaredMethods()) {
            if (!Modifier.isPrivate(m.getModifiers())) {
                StringBuilder s = new StringBuilder(m.getName()).append('(');
                for (Class<?> p : m.getParameterTypes()) {
                    s.append(s.charAt(s.length() - 1) == '(' ? "" : ",").append(p.getName());
                }
                found.add(s.append(')').append(m.getReturnType().getName()).toString());
                names.add(m.getName());
                Check.due("public " + m, Modifier.isPublic(m.getModifiers()) && !Modifier.isStatic(m.getModifiers()), true);
            }
        }
        Check.due("the methods " + found, found.equals(new TreeSet<>(List.of(FACE.split(" ")))), true);
        for (Field f : CrustMarket.class.getDeclaredFields()) {
            Check.due("field " + f, Modifier.isPrivate(f.getModifiers()) || f.getName().equals("NONE"), true);
        }
        for (Constructor<?> c : CrustMarket.class.getDeclaredConstructors()) {
            Check.due("constructor " + c, Modifier.isPublic(c.getModifiers()) && c.getParameterCount() == 0, true);
        }
        Check.due("final", Modifier.isFinal(CrustMarket.class.getModifiers()), true);
        Class<?>[] inside = CrustMarket.class.getDeclaredClasses();
        Check.due("at most twelve classes", inside.length + 1 <= 12, true);
        List<Class<?>> all = new ArrayList<>(List.of(inside));
        all.add(CrustMarket.class);
        for (Class<?> c : all) {
            int fields = 0;
            for (Field f : c.getDeclaredFields()) {
                fields += Modifier.isStatic(f.getModifiers()) ? 0 : 1;
                Check.due("static and final " + f, !Modifier.isStatic(f.getModifiers()) || Modifier.isFinal(f.getModifiers()), true);
            }
            Check.due("at most twenty fields: " + c, fields <= 20, true);
            Check.due("static " + c, c == CrustMarket.class || Modifier.isStatic(c.getModifiers()), true);
            for (Method m : c.getDeclaredMethods()) {
                boolean ofTheFace = c == CrustMarket.class && Modifier.isPublic(m.getModifiers());
                Check.due("no name of the face: " + m, ofTheFace || !names.contains(m.getName()), true);
            }
        }
    }

    private static void words(List<String> lines) {
        String[] none = {"throw", "throws", "try", "catch", "synchronized", "assert", "import", "package", "double", "float",
            "instanceof", "equals", "hashCode", "toString", "MAX_VALUE", "MIN_VALUE", "goto", "volatile", "native"};
        for (int i = 0; i < lines.size(); i++) {
            String code = lines.get(i).replaceAll("\"[^\"]*\"", "\"\"").replaceAll("//.*|/\\*\\*.*\\*/", "");
            for (String word : none) {
                Check.due("line " + (i + 1) + " has " + word, Pattern.compile("\\b" + word + "\\b").matcher(code).find(), false);
            }
            Check.due("line " + (i + 1) + " has a lambda", code.contains("->") || code.contains("::"), false);
            Check.due("line " + (i + 1) + " loops without a bound", code.matches(".*(while \\(true|for \\(;).*"), false);
            Check.due("line " + (i + 1) + " is of signs 32 to 126", code.matches("[ -~]*"), true);
            // Rows are made in constructors and fields alone: what a call makes is never freed in the room of a run.
            boolean made = code.contains("new ") && !code.contains("final ") && !code.matches(" +(this\\.)?\\w+(\\[i\\])? = new .*");
            Check.due("line " + (i + 1) + " makes an object", made, false);
        }
    }

    private static void methods(List<String> lines) {
        for (int i = 0; i < lines.size(); i++) {
            Matcher m = METHOD.matcher(lines.get(i));
            if (!m.matches() || m.group(1).matches("if|for|while|switch")) {
                continue;
            }
            String close = lines.get(i).replaceAll("\\S.*", "") + "}";
            int last = i;
            while (last < lines.size() && !lines.get(last).equals(close)) {
                last++;
            }
            Check.due(m.group(1) + " has sixty lines at most", last - i + 1 <= 60, true);
            Check.due(m.group(1) + " takes seven at most", m.group(2).split(",").length <= 7, true);
        }
    }
}

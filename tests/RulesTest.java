import java.lang.reflect.Constructor;
import java.lang.reflect.Field;
import java.lang.reflect.Method;
import java.lang.reflect.Modifier;
import java.nio.charset.StandardCharsets;
import java.nio.file.Files;
import java.nio.file.Path;
import java.util.Set;
import java.util.TreeSet;
import java.util.regex.Matcher;
import java.util.regex.Pattern;

/** What of LANGUAGE.md can be seen in the class and in its text. */
public final class RulesTest {
    private static final String FACE = "about(int,int)int alike(int,int,int)int apart(int,int,int)int atom(int,int)int clear()int "
        + "count(int)int falls(int,int,int)int follows(int,int,int)int growing()int grows(int)int heaps(int)int holds(int,int)int "
        + "known(int)int logic(int,int,int)int read(int)int see(int,int,int)int seen(int,int)int shown(int,int)int sorts()int "
        + "steps(int,int)int sure(int,int)int tell(int)int trace()long type(long,int)int worlds(int)int";
    private static final String[] NEVER = {"throw", "throws", "try", "catch", "finally", "synchronized", "assert", "import", "package",
        "->", "::", "protected", "volatile", "transient", "native", "instanceof", "var", "Exact", "float", "double", "Object", "System",
        "hashCode", "equals", "toString", "Thread"};

    public static void main(String[] args) throws Exception {
        face();
        inner();
        String source = new String(Files.readAllBytes(Path.of("src/main/java/SeenWorlds.java")), StandardCharsets.UTF_8);
        String code = bare(source);
        words(code);
        rows(code);
        made(code);
        methods(code);
        Due.end();
    }

    private static void right(String what, boolean is) {
        Due.is(what, is ? 1 : 0, 1);
    }

    private static void face() {
        Class<?> c = SeenWorlds.class;
        right("public final", Modifier.isPublic(c.getModifiers()) && Modifier.isFinal(c.getModifiers()));
        Set<String> names = new TreeSet<>();
        for (Method m : c.getDeclaredMethods()) {
            if (Modifier.isPrivate(m.getModifiers())) continue;
            right(m + " is public, of the object", m.getModifiers() == Modifier.PUBLIC);
            StringBuilder name = new StringBuilder(m.getName()).append('(');
            for (Class<?> p : m.getParameterTypes()) name.append(name.charAt(name.length() - 1) == '(' ? "" : ",").append(p);
            names.add(name.append(')').append(m.getReturnType()).toString());
        }
        right("the face: " + names, String.join(" ", names).equals(FACE));
        Set<String> constants = new TreeSet<>();
        for (Field f : c.getDeclaredFields()) {
            if (!Modifier.isPrivate(f.getModifiers())) constants.add(Modifier.toString(f.getModifiers()) + " " + f.getType() + " " + f.getName());
        }
        String pre = "public static final int ";
        right("constants", String.join(" ", constants).equals(pre + "BAD " + pre + "FULL " + pre + "NONE " + pre + "STATE"));
        Constructor<?>[] made = c.getDeclaredConstructors();
        right("one constructor", made.length == 1 && Modifier.isPublic(made[0].getModifiers()) && made[0].getParameterCount() == 0);
    }

    private static void inner() {
        Set<String> open = new TreeSet<>();
        for (Method m : SeenWorlds.class.getDeclaredMethods()) if (Modifier.isPublic(m.getModifiers())) open.add(m.getName());
        Class<?>[] classes = SeenWorlds.class.getDeclaredClasses();
        right("twelve classes at most", classes.length <= 11);
        fields(SeenWorlds.class);
        names(SeenWorlds.class, open);
        for (Class<?> c : classes) {
            int is = c.getModifiers();
            right(c + " is static", Modifier.isStatic(is) && !Modifier.isPublic(is) && !Modifier.isProtected(is));
            fields(c);
            names(c, open);
        }
    }

    private static void fields(Class<?> c) {
        int own = 0;
        for (Field f : c.getDeclaredFields()) {
            if (!Modifier.isStatic(f.getModifiers())) own++;
            else right(f + " is final", Modifier.isFinal(f.getModifiers()));
        }
        right(c + " has twenty fields at most", own <= 20);
    }

    private static void names(Class<?> c, Set<String> open) {
        for (Method m : c.getDeclaredMethods()) {
            right(m + " has no name of the face", Modifier.isPublic(m.getModifiers()) || !open.contains(m.getName()));
            right(m + " takes seven at most", m.getParameterCount() <= 7);
        }
    }

    /** The text without comments, and without what stands between ' and ' . */
    private static String bare(String source) {
        String code = source.replaceAll("(?s)/\\*.*?\\*/", "");
        code = code.replaceAll("'(\\\\.|[^'])'", "0");
        return code.replaceAll("//[^\n]*", "");
    }

    private static void words(String code) {
        for (String word : NEVER) {
            String sought = Character.isLetter(word.charAt(0)) ? "\\b" + word + "\\b" : Pattern.quote(word);
            right("never " + word, !Pattern.compile(sought).matcher(code).find());
        }
        right("no text at all", code.indexOf('"') < 0);
        for (char c : code.toCharArray()) if (c > 126) right("plain signs alone", false);
        Matcher library = Pattern.compile("\\b(Math|Integer|Long)\\.(\\w+)").matcher(code);
        while (library.find()) right(library.group(), library.group().matches("Math\\.(max|min)|Integer\\.bitCount"));
        right("no division", !Pattern.compile("[/%]").matcher(code).find());
    }

    /** No row is used but by at() and put(), behind a look at the place; sentences behind one of their own. */
    private static void rows(String code) {
        Matcher used = Pattern.compile("(\\w+)\\[([^\\]]+)\\]").matcher(code);
        int seen = 0;
        while (used.find()) {
            if (used.group(1).equals("int") || used.group(1).equals("Sentence")) continue;
            seen++;
            String all = used.group();
            boolean first = used.group(2).equals("0") && all.matches("(sign|first|second)\\[0\\]");
            right(all, first || all.equals("row[place]") || all.equals("sentences[i]"));
        }
        Due.is("places in rows", seen, 7);
    }

    /** No call makes an object: all are made with the first one, in fields and in constructors. */
    private static void made(String code) {
        Matcher lines = Pattern.compile("\n *([^\n]*\\bnew\\b[^\n]*)").matcher(code);
        int seen = 0;
        while (lines.find()) {
            seen++;
            String line = lines.group(1);
            boolean inField = line.matches("private final [\\w\\[\\]]+ \\w+ = new [^;]+;");
            boolean inConstructor = line.equals("sentences[i] = new Sentence(MOST_SIGNS);") || line.matches("(sign|first|second|place|deep) = new int\\[size\\];");
            right(line, inField || inConstructor);
        }
        right("makings were found: " + seen, seen > 20);
    }

    private static void methods(String code) {
        Matcher heads = Pattern.compile("\n( +)(?:(?:public|private|static|final) )*[\\w\\[\\]]+ \\w+\\([^)]*\\) \\{\n(.*?)\n\\1\\}", Pattern.DOTALL).matcher(code);
        int methods = 0;
        while (heads.find()) {
            methods++;
            right("a method of sixty lines at most", heads.group(2).split("\n").length <= 58);
        }
        right("methods were found: " + methods, methods > 80);
        Matcher loops = Pattern.compile("\\bwhile \\(([^\n]*)\\)").matcher(code);
        while (loops.find()) right("while (" + loops.group(1) + " has a bound", loops.group(1).matches("\\w+ [<>] \\w+ && .*"));
        Matcher counted = Pattern.compile("\\bfor \\(([^\n]*?)\\) ").matcher(code);
        while (counted.find()) right("for (" + counted.group(1) + ") has a bound", counted.group(1).matches("int \\w+ = [^;]+; [^;]*[<>][^;]*; \\w+(\\+\\+|--)"));
    }
}

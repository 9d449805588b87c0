import java.io.IOException;
import java.lang.reflect.Constructor;
import java.lang.reflect.Field;
import java.lang.reflect.Method;
import java.lang.reflect.Modifier;
import java.nio.file.Files;
import java.nio.file.Path;
import java.util.ArrayList;
import java.util.Arrays;
import java.util.List;
import java.util.Set;
import java.util.TreeSet;
import java.util.regex.Matcher;
import java.util.regex.Pattern;

/** The face of the document and what LANGUAGE.md rules out, as far as reflection and the source's words show it. */
final class LanguageTest {
    private static final Checks CHECKS = new Checks("LanguageTest");
    private static final String[] FACE = {
        "harbour(int)", "tell(int,int,int)", "move(int,int,int)", "set(int,int)", "undo()", "feed(int,long)", "law()",
        "holds(int,boolean)", "rule(int,int)", "unrule(int)", "inSet(int)", "later(int,int)", "cost(int,int)",
        "worst(int,int)", "best(int)", "byRules(int,int)", "ruled(int,int)", "close(int,int)", "put(int)",
        "prove(int,int)", "promise(int,int,int)", "corner(int)", "flat()", "foreknown(int,int)", "dearest()",
        "who(int,int)", "none(int,int)", "year(int)", "out()", "dearYears(int)", "drawn(int)", "image()", "restore()",
        "count(int)"};
    private static final String[] BANNED = {
        "throw", "try", "catch", "finally", "synchronized", "assert", "throws", "->", "::", "System.out", "Random",
        "Exact", "package ", "Thread", "hashCode", "toString", "equals", "@SuppressWarnings"};

    public static void main(String[] args) throws IOException {
        face();
        for (Class<?> inside : FerryPlans.class.getDeclaredClasses()) nested(inside);
        CHECKS.that("some twelve classes", FerryPlans.class.getDeclaredClasses().length <= 11);
        source(Files.readString(Path.of("src/main/java/FerryPlans.java")));
        CHECKS.end();
    }

    private static void face() {
        Class<?> c = FerryPlans.class;
        CHECKS.that("public final", Modifier.isPublic(c.getModifiers()) && Modifier.isFinal(c.getModifiers()));
        Set<String> wanted = new TreeSet<>(Arrays.asList(FACE));
        Set<String> found = new TreeSet<>();
        Set<String> names = new TreeSet<>();
        for (Method m : c.getDeclaredMethods()) {
            if (!Modifier.isPublic(m.getModifiers())) continue;
            found.add(signature(m));
            names.add(m.getName());
            CHECKS.that(m.getName() + " answers an int", m.getReturnType() == int.class);
        }
        CHECKS.that("the document's methods " + found, found.equals(wanted));
        for (Method m : c.getDeclaredMethods()) {
            if (Modifier.isPublic(m.getModifiers())) continue;
            CHECKS.that(m.getName() + " is private", Modifier.isPrivate(m.getModifiers()));
            CHECKS.that(m.getName() + " is no public name", !names.contains(m.getName()));
        }
        for (Field f : c.getDeclaredFields()) CHECKS.that(f + " is private", Modifier.isPrivate(f.getModifiers()));
        for (Constructor<?> k : c.getDeclaredConstructors()) {
            CHECKS.that("one constructor", Modifier.isPublic(k.getModifiers()) && k.getParameterCount() == 0);
        }
        fields(c);
    }

    private static String signature(Method m) {
        List<String> types = new ArrayList<>();
        for (Class<?> type : m.getParameterTypes()) types.add(type.getName());
        return m.getName() + "(" + String.join(",", types) + ")";
    }

    private static void nested(Class<?> c) {
        CHECKS.that(c + " is static", Modifier.isStatic(c.getModifiers()));
        CHECKS.that(c + " is not public", !Modifier.isPublic(c.getModifiers()));
        for (Method m : c.getDeclaredMethods()) {
            CHECKS.that(m + ": seven parameters at most", m.getParameterCount() <= 7);
            for (String one : FACE) {
                String name = one.substring(0, one.indexOf('('));
                CHECKS.that(m + " bears no public name", !m.getName().equals(name));
            }
        }
        CHECKS.due("classes inside " + c, c.getDeclaredClasses().length, 0);
        fields(c);
    }

    private static void fields(Class<?> c) {
        int own = 0;
        for (Field f : c.getDeclaredFields()) {
            if (Modifier.isStatic(f.getModifiers())) CHECKS.that(f + " is final", Modifier.isFinal(f.getModifiers()));
            else own++;
        }
        CHECKS.that(c + " has some twenty fields at most", own <= 20);
    }

    private static void source(String text) {
        String code = text.replaceAll("(?s)/\\*.*?\\*/", "").replaceAll("//[^\n]*", "");
        for (String word : BANNED) {
            String pattern = Character.isLetter(word.charAt(0)) ? "\\b" + Pattern.quote(word) : Pattern.quote(word);
            CHECKS.that("no " + word, !Pattern.compile(pattern).matcher(code).find());
        }
        Matcher imports = Pattern.compile("import ([\\w.*]+);").matcher(code);
        while (imports.find()) CHECKS.that(imports.group(), imports.group(1).equals("java.util.Arrays"));
        for (char sign : text.toCharArray()) CHECKS.that("sign " + (int) sign, sign < 128);
        methodsAreShort(text.split("\n"));
    }

    private static void methodsAreShort(String[] lines) {
        int start = -1;
        String end = "";
        for (int i = 0; i < lines.length; i++) {
            if (start < 0 && lines[i].matches("( {4}| {8})[\\w\\[\\]<>, ]+\\(.*\\) \\{")) {
                start = i;
                end = lines[i].replaceAll("\\S.*", "") + "}";
            } else if (start >= 0 && lines[i].equals(end)) {
                CHECKS.that("a method of " + (i - start + 1) + " lines from " + (start + 1), i - start < 60);
                start = -1;
            }
        }
    }
}

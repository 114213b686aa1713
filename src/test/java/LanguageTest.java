import java.lang.reflect.Constructor;
import java.lang.reflect.Field;
import java.lang.reflect.Method;
import java.lang.reflect.Modifier;
import java.nio.file.Files;
import java.nio.file.Path;
import java.util.HashSet;
import java.util.Set;
import java.util.TreeSet;
import java.util.regex.Matcher;
import java.util.regex.Pattern;

/** The public face, and what of LANGUAGE.md can be seen from outside or from the words of the source. */
public final class LanguageTest {
    private static final Check check = new Check();

    private static final String[] FACE = {
        "line()", "wish(int int int int int)", "on(int boolean)", "rank(int int)", "dial(int int)", "take(int)",
        "down(int)", "tick()", "image()", "restore()", "wishTold(int int)", "lineTold(int int)", "call(int int)",
        "row(int int)", "piece(int int)", "acted(int int)", "tells(int int)", "backs(int int)",
        "judge(int int int int int)", "actOf(int)", "alone(int int int int int)",
        "peace(int int int int int int)", "count(int)", "act(int int int)", "trace(int)", "sheet(int int int)",
        "cell(int int int)", "order(int int int)", "forge(int int int)", "status()",
    };

    public static void main(String[] args) throws Exception {
        face();
        classesInside();
        words(Files.readString(Path.of("src/main/java/WishLine.java")));
        check.end();
    }

    private static void due(String what, boolean holds) {
        check.due(what, holds ? 1 : 0, 1);
    }

    private static void face() {
        Set<String> found = new TreeSet<>();
        for (Method m : WishLine.class.getDeclaredMethods()) {
            if (Modifier.isPublic(m.getModifiers())) {
                StringBuilder text = new StringBuilder();
                for (Class<?> p : m.getParameterTypes()) {
                    text.append(text.length() == 0 ? "" : " ").append(p.getName());
                }
                found.add(m.getName() + "(" + text + ")");
                due(m.getName() + " answers an int", m.getReturnType() == int.class);
                due(m.getName() + " is of the object", !Modifier.isStatic(m.getModifiers()));
            } else {
                due(m.getName() + " is private", Modifier.isPrivate(m.getModifiers()));
            }
        }
        due("the face is " + found, found.equals(new TreeSet<>(Set.of(FACE))));
        for (Constructor<?> c : WishLine.class.getDeclaredConstructors()) {
            due("the constructor", Modifier.isPublic(c.getModifiers()) && c.getParameterCount() == 0);
        }
        for (Field f : WishLine.class.getDeclaredFields()) {
            boolean isNone = f.getName().equals("NONE") && Modifier.isPublic(f.getModifiers());
            due(f.getName() + " is private or NONE", isNone || Modifier.isPrivate(f.getModifiers()));
        }
        due("the class is final", Modifier.isFinal(WishLine.class.getModifiers()));
    }

    private static void classesInside() {
        Set<String> open = new HashSet<>();
        for (String f : FACE) {
            open.add(f.substring(0, f.indexOf('(')));
        }
        due("at most twelve classes", WishLine.class.getDeclaredClasses().length < 12);
        for (Class<?> inside : WishLine.class.getDeclaredClasses()) {
            due(inside.getName() + " is static", Modifier.isStatic(inside.getModifiers()));
            due(inside.getName() + " is not public", !Modifier.isPublic(inside.getModifiers()));
            for (Method m : inside.getDeclaredMethods()) {
                due(inside.getName() + "." + m.getName() + " bears no public name", !open.contains(m.getName()));
                due(m.getName() + " takes at most seven", m.getParameterCount() <= 7);
            }
            for (Field f : inside.getDeclaredFields()) {
                due(f.getName() + " is no static state", !Modifier.isStatic(f.getModifiers()));
            }
        }
    }

    private static void words(String source) {
        String code = source.replaceAll("(?s)/\\*.*?\\*/", " ").replaceAll("//[^\n]*", " ");
        String[] ruledOut = {
            "throw", "throws", "try", "catch", "finally", "synchronized", "assert", "import", "package", "extends",
            "System.out", "System.nanoTime", "System.currentTimeMillis", "Exact", "->", "::", "hashCode", "toString",
        };
        for (String word : ruledOut) {
            boolean isName = Character.isLetter(word.charAt(0));
            String edge = isName ? "\\b" : "";
            Matcher m = Pattern.compile(edge + Pattern.quote(word) + edge).matcher(code);
            due("no " + word, !m.find());
        }
        for (char sign : source.toCharArray()) {
            due("only plain signs", sign < 128);
        }
    }
}

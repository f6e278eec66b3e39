import java.lang.reflect.Constructor;
import java.lang.reflect.Field;
import java.lang.reflect.Method;
import java.lang.reflect.Modifier;
import java.nio.file.Files;
import java.nio.file.Path;
import java.util.Set;
import java.util.TreeSet;
import java.util.regex.Matcher;
import java.util.regex.Pattern;

/** Some rules of LANGUAGE.md that a reading of the file can find broken. */
public final class LanguageTest {
    private static final String FACE = "feed end capital fault has letter fact rule person licence price buy back word days rumours undo "
        + "seed kept when breach bliss surprise follows by barred cheapest seeded face rest image octet on status";

    private LanguageTest() {
    }

    public static void main(String[] args) throws Exception {
        String source = Files.readString(Path.of("src/main/java/BlissMarket.java"));
        String code = source.replaceAll("(?s)/\\*.*?\\*/", "").replaceAll("//[^\n]*", "").replaceAll("\"[^\"\n]*\"", "\"\"");
        for (String word : "throw throws try catch synchronized assert new\\s+Object Random System\\.out Thread Exact static\\s*\\{ -> ::".split(" ")) {
            Due.is("no <" + word + ">", Pattern.compile(word.matches("[a-z]+") ? "\\b" + word + "\\b" : word).matcher(code).find(), false);
        }
        Due.is("texts are not joined by +", Pattern.compile("\"\"\\s*\\+|\\+\\s*\"\"").matcher(code).find(), false);
        theFace();
        noNameTwice(code);
        Due.close("LanguageTest");
    }

    private static void theFace() {
        Set<String> due = new TreeSet<>(Set.of(FACE.split(" ")));
        Set<String> seen = new TreeSet<>();
        for (Method m : BlissMarket.class.getDeclaredMethods()) {
            if (!Modifier.isPrivate(m.getModifiers())) {
                Due.is(m.getName() + " is public", Modifier.isPublic(m.getModifiers()), true);
                seen.add(m.getName());
            }
        }
        Due.is("the methods of the face " + seen, seen.equals(due), true);
        for (Field f : BlissMarket.class.getDeclaredFields()) {
            Due.is(f.getName(), Modifier.isPrivate(f.getModifiers()) || f.getName().equals("NONE"), true);
        }
        for (Constructor<?> c : BlissMarket.class.getDeclaredConstructors()) {
            Due.is("constructor", Modifier.isPublic(c.getModifiers()) && c.getParameterCount() == 0, true);
        }
        Due.is("final", Modifier.isFinal(BlissMarket.class.getModifiers()), true);
        for (Class<?> c : BlissMarket.class.getDeclaredClasses()) {
            Due.is(c.getName() + " is static", Modifier.isStatic(c.getModifiers()), true);
            for (Method m : c.getDeclaredMethods()) {
                Due.is(m.getName() + " is no name of the face", due.contains(m.getName()), false);
            }
        }
    }

    private static void noNameTwice(String code) {
        Matcher m = Pattern.compile("private (?:static )?[a-z\\[\\]A-Z]+ ([a-zA-Z]+)\\(").matcher(code);
        while (m.find()) {
            Due.is(m.group(1) + " is private and no name of the face", Set.of(FACE.split(" ")).contains(m.group(1)), false);
        }
    }
}

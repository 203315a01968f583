import java.io.IOException;
import java.lang.reflect.Field;
import java.lang.reflect.Method;
import java.lang.reflect.Modifier;
import java.nio.file.Files;
import java.nio.file.Path;
import java.util.Arrays;
import java.util.List;
import java.util.Set;
import java.util.TreeSet;
import java.util.regex.Pattern;

/** What of LANGUAGE.md can be seen from outside: the face, the members' access and the words of the file. */
public final class LanguageTest {
    private static final List<String> FACE = List.of(
        "year(int,int)", "day(int,int,int)", "season(int,int,int,int,int)", "dated(int,int,int,int,int)",
        "feast(int,int,int,int,int)", "around(int,int,boolean)", "raise(int,int,int)", "office(int,int,int)",
        "also(int,int,int,int)", "kept(int,int)", "tally(int,int,int)", "verses(int,int)", "hours(int)", "fix(int,int)",
        "festal(int,int)", "limit(int)", "dealt(int,int,int)", "sung(int,int,int,int)", "times(int,int,int,int)",
        "tenor(int,int)", "note(int,int,int)", "accent(int,int,int,int,int,int)", "accents(int,int,int)",
        "syllable(int,boolean)", "part(int)", "sing(int,int,int)", "monk(int)", "absence(int,int,int,int)",
        "roster(int,int,int)", "turn(int,int,int)", "had(int,int)");

    private static final List<String> FORBIDDEN = List.of(
        "\\bthrow\\b", "\\bthrows\\b", "\\btry\\b", "\\bcatch\\b", "\\bsynchronized\\b", "\\bassert\\b", "\\bimport\\b",
        "\\bpackage\\b", "\\bprotected\\b", "->", "::", "Exact\\b", "\\bObjects?\\b", "\\bSystem\\.(?!arraycopy)",
        "\\bhashCode\\b", "\\bstatic\\s*\\{", "\\bvolatile\\b", "\\bnative\\b");

    public static void main(String[] args) throws IOException {
        theFace();
        theMembers();
        theWords();
        Check.end("LanguageTest");
    }

    private static void theFace() {
        Set<String> found = new TreeSet<>();
        for (Method m : ChoirBook.class.getDeclaredMethods()) {
            if (Modifier.isPublic(m.getModifiers())) {
                List<String> types = Arrays.stream(m.getParameterTypes()).map(Class::getName).toList();
                found.add(m.getName() + "(" + String.join(",", types) + ")");
                Check.due("the face: " + m.getName() + " answers an int", m.getReturnType() == int.class ? 1 : 0, 1);
                Check.due("the face: " + m.getName() + " is no static one", Modifier.isStatic(m.getModifiers()) ? 1 : 0, 0);
            } else {
                Check.due("1: " + m.getName() + " is private", Modifier.isPrivate(m.getModifiers()) || m.isSynthetic() ? 1 : 0, 1);
            }
        }
        Check.due("the face: its methods " + found, found.equals(new TreeSet<>(FACE)) ? 1 : 0, 1);
        int modifiers = ChoirBook.class.getModifiers();
        Check.due("the face: public and final", Modifier.isPublic(modifiers) && Modifier.isFinal(modifiers) ? 1 : 0, 1);
        Check.due("the face: one constructor", ChoirBook.class.getDeclaredConstructors().length, 1);
        Check.due("the face: and that is public", ChoirBook.class.getConstructors().length, 1);
        Check.due("the face: one public field", ChoirBook.class.getFields().length, 1);
    }

    private static void theMembers() {
        Set<String> names = new TreeSet<>();
        FACE.forEach(f -> names.add(f.substring(0, f.indexOf('('))));
        fieldsOf(ChoirBook.class);
        Check.due("11: some twelve classes", ChoirBook.class.getDeclaredClasses().length <= 12 ? 1 : 0, 1);
        for (Class<?> inner : ChoirBook.class.getDeclaredClasses()) {
            Check.due("2: " + inner.getSimpleName() + " is static", Modifier.isStatic(inner.getModifiers()) ? 1 : 0, 1);
            Check.due("1: " + inner.getSimpleName() + " is not public", Modifier.isPublic(inner.getModifiers()) ? 1 : 0, 0);
            fieldsOf(inner);
            for (Method m : inner.getDeclaredMethods()) {
                Check.due("1: the name of " + inner.getSimpleName() + "." + m.getName(), names.contains(m.getName()) ? 1 : 0, 0);
                Check.due("11: parameters of " + m.getName(), m.getParameterCount() <= 7 ? 1 : 0, 1);
            }
        }
    }

    private static void fieldsOf(Class<?> type) {
        int own = 0;
        for (Field f : type.getDeclaredFields()) {
            if (Modifier.isStatic(f.getModifiers())) {
                Check.due("5: " + f + " is final", Modifier.isFinal(f.getModifiers()) ? 1 : 0, 1);
            } else {
                own++;
                Check.due("1: " + f + " is private", Modifier.isPrivate(f.getModifiers()) ? 1 : 0, 1);
            }
        }
        Check.due("11: fields of " + type.getSimpleName(), own <= 20 ? 1 : 0, 1);
    }

    private static void theWords() throws IOException {
        String source = Files.readString(Path.of("src/main/java/ChoirBook.java"));
        Check.due("3: signs of the file", source.chars().allMatch(c -> c < 128) ? 1 : 0, 1);
        String code = source.replaceAll("(?s)/\\*.*?\\*/", "").replaceAll("//[^\n]*", "");
        for (String word : FORBIDDEN) {
            Check.due("the words: " + word, Pattern.compile(word).matcher(code).find() ? 1 : 0, 0);
        }
    }
}

import java.io.IOException;
import java.lang.reflect.Constructor;
import java.lang.reflect.Field;
import java.lang.reflect.Method;
import java.lang.reflect.Modifier;
import java.nio.file.Files;
import java.nio.file.Path;
import java.util.Arrays;
import java.util.Set;
import java.util.TreeSet;
import java.util.regex.Matcher;
import java.util.regex.Pattern;
import java.util.stream.Collectors;

/** The face of the document, and those rules of LANGUAGE.md that can be seen by a program. */
public final class LanguageTest {
    private static final String FACE = "row3 set3 copy5 drop1 feed1 bank0 fault0 undo0 serve1 counter2 come2 dismiss0 swap0 "
        + "teller2 paper2 cost2 queue1 ahead2 waiting1 server1 holds0 infant0 order1 share1 open1 cheap2 most0 twins1 who6 "
        + "sums4 stayed4 away2 drawn3 image1 restore1 kind1 as2 ask2 trace1 count1 status0";

    public static void main(String[] args) throws IOException {
        face();
        faceOfTheDocument();
        constants();
        members();
        words();
        Check.end();
    }

    private static void face() {
        Set<String> due = new TreeSet<>(Arrays.asList(FACE.split(" ")));
        Set<String> there = new TreeSet<>();
        Set<String> names = new TreeSet<>();
        for (Method m : TellerDays.class.getDeclaredMethods()) {
            if (!Modifier.isPublic(m.getModifiers())) continue;
            there.add(m.getName() + m.getParameterCount());
            names.add(m.getName());
            Class<?> answer = m.getName().equals("away") ? long.class : int.class;
            Check.that(m + " answers " + answer, m.getReturnType() == answer && !Modifier.isStatic(m.getModifiers()));
            Check.that(m + " takes ints", Arrays.stream(m.getParameterTypes()).allMatch(t -> t == int.class));
        }
        Check.that("the face is " + due + ", not " + there, due.equals(there));
        Constructor<?>[] made = TellerDays.class.getDeclaredConstructors();
        Check.that("one constructor", made.length == 1 && Modifier.isPublic(made[0].getModifiers()) && made[0].getParameterCount() == 0);
        Check.that("public and final", TellerDays.class.getModifiers() == (Modifier.PUBLIC | Modifier.FINAL));
        for (Class<?> c : all()) {
            for (Method m : c.getDeclaredMethods()) {
                Check.that(m + " bears a name of the face", c == TellerDays.class && Modifier.isPublic(m.getModifiers())
                    || !names.contains(m.getName()));
                Check.that(m + " takes seven at most", m.getParameterCount() <= 7);
            }
        }
    }

    private static void faceOfTheDocument() {
        Set<String> due = Doc.face();
        Set<String> there = new TreeSet<>();
        for (Method m : Pair.face()) {
            String types = Arrays.stream(m.getParameterTypes()).map(Class::getName).collect(Collectors.joining(", "));
            there.add(m.getReturnType().getName() + " " + m.getName() + "(" + types + ")");
        }
        Check.that("the document's face is " + due + ", not " + there, due.isEmpty() || due.equals(there));
    }

    private static void constants() {
        Check.due("NONE", TellerDays.NONE, -1000000);
        Check.due("BAD", TellerDays.BAD, -1000001);
        Check.due("STATE", TellerDays.STATE, -1000002);
        Check.due("FULL", TellerDays.FULL, -1000003);
    }

    private static Class<?>[] all() {
        Class<?>[] inside = TellerDays.class.getDeclaredClasses();
        Class<?>[] all = Arrays.copyOf(inside, inside.length + 1);
        all[inside.length] = TellerDays.class;
        return all;
    }

    private static void members() {
        Check.that("twelve classes at most", all().length <= 12);
        for (Class<?> c : all()) {
            Check.that(c + " is static", c == TellerDays.class || Modifier.isStatic(c.getModifiers()));
            int own = 0;
            for (Field f : c.getDeclaredFields()) {
                own += Modifier.isStatic(f.getModifiers()) ? 0 : 1;
                Check.that(f + " is final, if static", !Modifier.isStatic(f.getModifiers()) || Modifier.isFinal(f.getModifiers()));
                boolean constant = c == TellerDays.class && "NONE BAD STATE FULL".contains(f.getName());
                Check.that(f + " is private", constant || Modifier.isPrivate(f.getModifiers()));
            }
            Check.that(c + " has twenty fields at most", own <= 20);
        }
        for (Method m : TellerDays.class.getDeclaredMethods()) {
            Check.that(m + " is public or private", (m.getModifiers() & (Modifier.PUBLIC | Modifier.PRIVATE)) != 0);
        }
    }

    private static void words() throws IOException {
        String source = Files.readString(Path.of("src/main/java/TellerDays.java"));
        String code = source.replaceAll("(?s)/\\*.*?\\*/", "").replaceAll("//[^\n]*", "");
        for (String word : "throw throws try catch finally synchronized assert import package protected native volatile".split(" ")) {
            Check.that("no '" + word + "'", !Pattern.compile("\\b" + word + "\\b").matcher(code).find());
        }
        for (String sign : new String[] {"->", "::", "Exact", "Object", "hashCode", "toString", "\""}) {
            Check.that("no " + sign, !code.contains(sign));
        }
        Matcher library = Pattern.compile("\\b(Math|Integer|Long|System|Arrays)\\.(\\w+)").matcher(code);
        while (library.find()) {
            Check.that(library.group(), Set.of("Math.min", "Math.max", "Integer.bitCount", "System.arraycopy").contains(library.group()));
        }
        Check.that("no static block", !Pattern.compile("static\\s*\\{").matcher(code).find());
        for (String line : code.split("\n")) {
            boolean kept = line.trim().startsWith("private final ") || line.matches(" +(kept|levels)\\[k\\] = new Bank\\(\\);");
            Check.that("made once, with the object: " + line, kept || !line.contains("new "));
        }
        int length = 0;
        for (String line : source.split("\n")) {
            length = line.endsWith("{") && line.matches(" {4}(    )?\\S.*\\(.*") ? 0 : length + 1;
            Check.that("a method of some sixty lines: " + line, !line.matches(" {4}(    )?}") || length <= 60);
        }
    }
}

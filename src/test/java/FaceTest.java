import java.io.IOException;
import java.lang.reflect.Constructor;
import java.lang.reflect.Field;
import java.lang.reflect.Method;
import java.lang.reflect.Modifier;
import java.nio.file.Files;
import java.nio.file.Path;
import java.util.List;
import java.util.Set;
import java.util.TreeSet;
import java.util.regex.Matcher;
import java.util.regex.Pattern;

/** The public face of the document, and the rules of LANGUAGE.md that can be looked up. */
public final class FaceTest {
    private static final Set<String> FACE = Set.of("int feed(int,int,int,int,int)", "boolean end(int)",
            "int school()", "int fault(int)", "int has(int)", "int letter(int,int,int)", "int fact(int,int)",
            "int person(int,int)", "long marks(int)", "int next(int)", "int kept(int,int)", "int later(int,int)",
            "int doctor(int)", "int lost(int)", "int master(int,int)", "int gift(int,int,int)", "int law(int,int)",
            "int hear()", "int sources(int,int)", "int probe(int,int,int)", "int part(int,int)",
            "boolean teach(int,int)", "boolean tell(int,int)", "int years(int)", "int chance(int)",
            "boolean undo()", "boolean seed(int)", "long ask(int)", "int image()", "int octet(int)", "boolean on()",
            "int status(int)");

    private static String signature(Method m) {
        StringBuilder s = new StringBuilder(m.getReturnType().getName() + " " + m.getName() + "(");
        for (Class<?> type : m.getParameterTypes()) {
            s.append(s.charAt(s.length() - 1) == '(' ? "" : ",").append(type.getName());
        }
        return s.append(")").toString();
    }

    private static void face() {
        Set<String> seen = new TreeSet<>();
        Set<String> names = new TreeSet<>();
        for (Method m : PupilsPupil.class.getDeclaredMethods()) {
            if (Modifier.isPublic(m.getModifiers())) {
                seen.add(signature(m));
                names.add(m.getName());
            } else {
                Check.due(m + " is private", Modifier.isPrivate(m.getModifiers()), true);
            }
        }
        Check.due("the public methods " + seen, seen.equals(FACE), true);
        for (Field f : PupilsPupil.class.getDeclaredFields()) {
            boolean constant = f.getName().equals("NONE") || f.getName().equals("NOTHING");
            Check.due(f + " is seen as it must be", Modifier.isPublic(f.getModifiers()), constant);
            Check.due(f + " is private or a constant", constant || Modifier.isPrivate(f.getModifiers()), true);
            Check.due(f + " is final if static", !Modifier.isStatic(f.getModifiers())
                    || Modifier.isFinal(f.getModifiers()), true);
        }
        Constructor<?>[] constructors = PupilsPupil.class.getDeclaredConstructors();
        Check.due("constructors", constructors.length, 1);
        Check.due("its parameters", constructors[0].getParameterCount(), 0);
        Check.due("it is public", Modifier.isPublic(constructors[0].getModifiers()), true);
        Check.due("the class is final", Modifier.isFinal(PupilsPupil.class.getModifiers()), true);
        Check.due("NONE", PupilsPupil.NONE, -1);
        Check.due("NOTHING", PupilsPupil.NOTHING, -1000000000000000L);
        classesInside(names);
    }

    private static void classesInside(Set<String> publicNames) {
        Class<?>[] inside = PupilsPupil.class.getDeclaredClasses();
        Check.due("some twelve classes", inside.length + 1 <= 13, true);
        for (Class<?> c : inside) {
            Check.due(c + " is static", Modifier.isStatic(c.getModifiers()), true);
            Check.due(c + " is not public", Modifier.isPublic(c.getModifiers()), false);
            int fields = 0;
            for (Field f : c.getDeclaredFields()) {
                boolean isStatic = Modifier.isStatic(f.getModifiers());
                fields += isStatic ? 0 : 1;
                Check.due(f + " is final if static", !isStatic || Modifier.isFinal(f.getModifiers()), true);
            }
            Check.due(c + " has some twenty fields", fields <= 20, true);
            for (Method m : c.getDeclaredMethods()) {
                Check.due(m + " bears a public name", publicNames.contains(m.getName()), false);
                Check.due(m + " takes seven at most", m.getParameterCount() <= 7, true);
            }
        }
    }

    private static void source() throws IOException {
        String text = Files.readString(Path.of("src/main/java/PupilsPupil.java"));
        // Comments and texts may say what they like.
        String code = text.replaceAll("(?s)/\\*.*?\\*/|//[^\n]*|\"[^\"\n]*\"", "");
        String[] ruledOut = {"\\bthrow\\b", "\\btry\\b", "\\bcatch\\b", "\\bsynchronized\\b", "\\bassert\\b", "->", "::",
            "\\bthrows\\b", "\\bprotected\\b", "\\bpackage\\b", "Exact\\b", "\\bSystem\\.(?!arraycopy\\b)", "\\bObject\\b",
            "\\bhashCode\\b", "\\btoString\\b", "\\bThread\\b", "\\bordinal\\b", "while \\(true\\)", "for \\(;;"};
        for (String pattern : ruledOut) {
            Check.due(pattern + " is ruled out", Pattern.compile(pattern).matcher(code).find(), false);
        }
        Matcher imports = Pattern.compile("import ([^;]*);").matcher(code);
        while (imports.find()) {
            Check.due("import " + imports.group(1), List.of("java.util.Arrays").contains(imports.group(1)), true);
        }
        Check.due("signs of the source", text.chars().allMatch(c -> c < 127), true);
        methodsAreShort(text);
    }

    private static void methodsAreShort(String text) {
        int start = -1;
        String[] lines = text.split("\n");
        for (int k = 0; k < lines.length; k++) {
            if (lines[k].matches(" {4}( {4})?[^ /*@}].*\\) \\{")) {
                start = k;
            } else if (start >= 0 && lines[k].matches(" {4}( {4})?}") && lines[k].indexOf('}')
                    == lines[start].length() - lines[start].stripLeading().length()) {
                Check.due(lines[start].trim() + " has " + (k - start) + " lines", k - start <= 60, true);
                start = -1;
            }
        }
    }

    public static void main(String[] args) throws IOException {
        face();
        source();
        Check.close();
    }
}

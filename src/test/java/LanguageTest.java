import java.io.IOException;
import java.lang.reflect.Constructor;
import java.lang.reflect.Field;
import java.lang.reflect.Method;
import java.lang.reflect.Modifier;
import java.nio.file.Files;
import java.nio.file.Path;
import java.util.Arrays;
import java.util.Set;
import java.util.TreeSet;
import java.util.regex.Matcher;
import java.util.regex.Pattern;

/** The face of the class as the document writes it, and rules of LANGUAGE.md that its text can show. */
public final class LanguageTest {
    private static final String[] FACE = {
        "int cut(int,int,int)", "int strip(int,int)", "int share(int,int,int)", "int places(int,int)",
        "int read(int,int,int)", "int write(int,int,int,int)", "int turn(int,int,int,int)", "int head(int,int)",
        "int play(int,int)", "long heard(int,int)", "int quiet(int)", "int comb(int,int,int,int)", "int drop(int)",
        "int about(int,int)", "int loosen(int,int)", "int hang(int,int,int)", "int fit(int,int,int)",
        "int cell(int,int,int)", "int set(int,int,int,int)", "int twist(int,int,int,int)", "int state()"};
    private static final String[] CONSTANTS = {"NONE", "LACKING", "BEYOND", "SIZE", "BOUND"};
    private static final String[] FORBIDDEN = {
        "\\bimport\\b", "\\bpackage\\b", "\\bcatch\\b", "\\bfinally\\b", "\\bsynchronized\\b", "\\bassert\\b",
        "->", "::", "\\bthrow\\b", "\\bFloat\\.", "\\bDouble\\.", "\\bSystem\\.", "\\bThread\\b", "Exact\\(",
        "\\bhashCode\\b", "\\btoString\\b", "\\bequals\\b", "\\bstatic\\s*\\{", "@", "[^\\x00-\\x7f]"};
    private static final int LONGEST_METHOD = 60;

    private static int wrong = 0;

    public static void main(String[] args) throws IOException {
        faceIsTheDocuments();
        membersAreHidden();
        nestedClassesKeepTheRules();
        textKeepsTheRules();
        System.out.println(wrong + " rules broken");
        if (wrong != 0) {
            System.exit(1);
        }
    }

    private static void demand(boolean holds, String what) {
        if (!holds) {
            wrong++;
            System.out.println("not so: " + what);
        }
    }

    private static String signature(Method m) {
        StringBuilder text = new StringBuilder(m.getReturnType().getSimpleName() + " " + m.getName() + "(");
        for (Class<?> type : m.getParameterTypes()) {
            text.append(text.charAt(text.length() - 1) == '(' ? "" : ",").append(type.getSimpleName());
        }
        return text.append(")").toString();
    }

    private static void faceIsTheDocuments() {
        demand(Modifier.isPublic(MusicBoxes.class.getModifiers()), "the class is public");
        demand(Modifier.isFinal(MusicBoxes.class.getModifiers()), "the class is final");
        Set<String> methods = new TreeSet<>();
        for (Method m : MusicBoxes.class.getDeclaredMethods()) {
            if (Modifier.isPublic(m.getModifiers())) {
                methods.add(signature(m));
                demand(!Modifier.isStatic(m.getModifiers()), m.getName() + " is no static method");
                demand(m.getExceptionTypes().length == 0, m.getName() + " declares no exception");
            }
        }
        demand(methods.equals(new TreeSet<>(Arrays.asList(FACE))), "the public methods are the document's: " + methods);
        Set<String> fields = new TreeSet<>();
        for (Field f : MusicBoxes.class.getDeclaredFields()) {
            if (Modifier.isPublic(f.getModifiers())) {
                fields.add(f.getName());
                demand(Modifier.isStatic(f.getModifiers()) && Modifier.isFinal(f.getModifiers())
                    && f.getType() == int.class, f.getName() + " is a constant int");
            }
        }
        demand(fields.equals(new TreeSet<>(Arrays.asList(CONSTANTS))), "the public constants are the document's");
        Constructor<?>[] made = MusicBoxes.class.getDeclaredConstructors();
        demand(made.length == 1 && Modifier.isPublic(made[0].getModifiers()) && made[0].getParameterCount() == 0,
            "there is one public constructor, without parameters");
    }

    private static void membersAreHidden() {
        Set<String> names = new TreeSet<>();
        for (String call : FACE) {
            names.add(call.substring(call.indexOf(' ') + 1, call.indexOf('(')));
        }
        for (Method m : MusicBoxes.class.getDeclaredMethods()) {
            boolean open = Modifier.isPublic(m.getModifiers());
            demand(open || Modifier.isPrivate(m.getModifiers()), m.getName() + " is public or private");
            demand(open || !names.contains(m.getName()), m.getName() + " bears no public name");
        }
        for (Class<?> inside : MusicBoxes.class.getDeclaredClasses()) {
            for (Method m : inside.getDeclaredMethods()) {
                demand(!names.contains(m.getName()), inside.getName() + "'s " + m.getName() + " bears no public name");
                demand(m.getParameterCount() <= 7, m.getName() + " takes at most seven parameters");
            }
        }
        for (Field f : MusicBoxes.class.getDeclaredFields()) {
            boolean open = Modifier.isPublic(f.getModifiers());
            demand(open || Modifier.isPrivate(f.getModifiers()), f.getName() + " is public or private");
        }
    }

    private static void nestedClassesKeepTheRules() {
        Class<?>[] nested = MusicBoxes.class.getDeclaredClasses();
        demand(nested.length <= 12, "there are at most twelve classes");
        for (Class<?> inside : nested) {
            demand(Modifier.isStatic(inside.getModifiers()), inside.getName() + " is static");
            demand(!Modifier.isPublic(inside.getModifiers()) && !Modifier.isProtected(inside.getModifiers()),
                inside.getName() + " is hidden");
            demand(inside.getDeclaredFields().length <= 20, inside.getName() + " has at most twenty fields");
            for (Field f : inside.getDeclaredFields()) {
                demand(!Modifier.isStatic(f.getModifiers()), inside.getName() + " has no static state");
            }
        }
        for (Field f : MusicBoxes.class.getDeclaredFields()) {
            demand(!Modifier.isStatic(f.getModifiers()) || f.getType() == int.class, f.getName() + " is an int constant");
            demand(!Modifier.isStatic(f.getModifiers()) || Modifier.isFinal(f.getModifiers()), f.getName() + " is final");
        }
    }

    private static void textKeepsTheRules() throws IOException {
        String whole = Files.readString(Path.of("src/main/java/MusicBoxes.java"));
        String code = whole.replaceAll("(?s)/\\*.*?\\*/", "").replaceAll("//[^\n]*", "");
        for (String pattern : FORBIDDEN) {
            Matcher found = Pattern.compile(pattern).matcher(code);
            demand(!found.find(), "nothing like " + pattern + " stands in the code");
        }
        methodsAreShort(whole.split("\n"));
    }

    // By its layout: a method's first line stands four or eight spaces in, and so does the brace that ends it.
    private static void methodsAreShort(String[] lines) {
        int start = 0;
        for (int i = 0; i < lines.length; i++) {
            if (lines[i].matches(" {4}( {4})?(?!if|for|while|switch|\\}| )[^ ].*\\) \\{")) {
                start = i;
            }
            if (lines[i].matches(" {4}( {4})?}")) {
                demand(i - start < LONGEST_METHOD, "the method at line " + (start + 1) + " is short");
            }
        }
    }
}

import java.io.IOException;
import java.lang.reflect.Constructor;
import java.lang.reflect.Field;
import java.lang.reflect.Method;
import java.lang.reflect.Modifier;
import java.nio.file.Files;
import java.nio.file.Path;
import java.util.Arrays;
import java.util.HashSet;
import java.util.Set;
import java.util.TreeSet;
import java.util.regex.Matcher;
import java.util.regex.Pattern;

/** The public face is the document's and no more; the source keeps to what of the language can be seen from its text. */
public final class FaceTest {
    private static final String[] FACE = {"feed(long,long,long)int", "hills()int", "days()int", "way(int,int)int",
        "walker(int,int)int", "where(int,int)int", "hour(int,int)int", "meet(int,int,int)int", "late(int,int)boolean",
        "dies(int)boolean", "deputy(int,int)boolean", "snow()boolean", "day()int", "undo()boolean", "judged(int)int",
        "see(int,int,boolean)boolean", "times(int)int", "look()int", "deputies(int)int", "sure(int,int,int)int",
        "soonest(int,int,int)int", "lonely(int)int", "tell(int,int)boolean", "sets(int,int)int",
        "rests(int,int,int,int)int", "years(int,int,int)int", "mark(int,boolean)boolean", "count(int)int"};

    private FaceTest() {
    }

    public static void main(String[] args) throws IOException, NoSuchMethodException {
        members();
        source(Files.readString(Path.of("src/main/java/HillClock.java")));
        Due.end();
    }

    private static void members() throws NoSuchMethodException {
        Set<String> shown = new TreeSet<>();
        Set<String> hidden = new HashSet<>();
        Set<String> names = new HashSet<>();
        for (Method m : HillClock.class.getDeclaredMethods()) {
            if (Modifier.isPublic(m.getModifiers())) {
                shown.add(signature(m));
                names.add(m.getName());
            } else {
                hidden.add(m.getName());
                Due.is(m + " is private", Modifier.isPrivate(m.getModifiers()), true);
            }
        }
        Due.is("the face " + shown, shown.equals(new TreeSet<>(Arrays.asList(FACE))), true);
        for (Class<?> within : HillClock.class.getDeclaredClasses()) {
            Due.is(within + " is static", Modifier.isStatic(within.getModifiers()), true);
            Due.is(within + " is not public", Modifier.isPublic(within.getModifiers()), false);
            for (Method m : within.getDeclaredMethods()) {
                hidden.add(m.getName());
            }
        }
        hidden.retainAll(names);
        Due.is("hidden methods with a public name " + hidden, hidden.size(), 0);
        for (Field f : HillClock.class.getDeclaredFields()) {
            boolean none = f.getName().equals("NONE");
            Due.is(f + " is public", Modifier.isPublic(f.getModifiers()), none);
            Due.is(f + " is private", Modifier.isPrivate(f.getModifiers()), !none);
            boolean changing = Modifier.isStatic(f.getModifiers()) && !Modifier.isFinal(f.getModifiers());
            Due.is(f + " is static and changes", changing, false);
        }
        Due.is("NONE", HillClock.NONE, -1);
        Constructor<?>[] made = HillClock.class.getDeclaredConstructors();
        Due.is("constructors", made.length, 1);
        Due.is("its parameters", made[0].getParameterCount(), 0);
        Due.is("final", Modifier.isFinal(HillClock.class.getModifiers()), true);
        Method rests = HillClock.class.getMethod("rests", int.class, int.class, int.class, int.class);
        Due.is("rests says what it throws", rests.getExceptionTypes().length, 1);
    }

    private static String signature(Method m) {
        StringBuilder text = new StringBuilder(m.getName()).append("(");
        for (Class<?> type : m.getParameterTypes()) {
            text.append(text.charAt(text.length() - 1) == '(' ? "" : ",").append(type);
        }
        return text.append(")").append(m.getReturnType()).toString();
    }

    private static void source(String text) {
        for (String never : new String[] {"->", "::", "catch", "finally", "synchronized", "assert ", "package ", "Exact",
            "System.out", "hashCode", ".toString(", "new int[][]", "double", "float", "while (true)", "for (;;)"}) {
            Due.is("the source has " + never, text.contains(never), false);
        }
        Set<String> imports = new HashSet<>();
        Matcher m = Pattern.compile("(?m)^import (.*);$").matcher(text);
        while (m.find()) {
            imports.add(m.group(1));
        }
        imports.removeAll(Arrays.asList("java.util.Arrays", "java.util.NoSuchElementException"));
        Due.is("other imports " + imports, imports.size(), 0);
        boolean ascii = text.chars().allMatch(c -> c == 10 || c >= 32 && c < 127);
        Due.is("plain signs alone", ascii, true);
        methodsAreShort(text);
    }

    /** Methods of the class stand at four, those of classes within at eight blanks. */
    private static void methodsAreShort(String text) {
        String[] lines = text.split("\n");
        int from = 0;
        for (int i = 0; i < lines.length; i++) {
            if (lines[i].matches(" {4}( {4})?\\S.*\\) (throws \\w+ )?\\{")) {
                from = i;
                int comma = lines[i].split(",").length;
                Due.is("more than seven parameters: " + lines[i], comma > 7, false);
            }
            if (lines[i].matches(" {4}( {4})?\\}")) {
                Due.is("a method of over sixty lines: " + lines[from], i - from > 60 && lines[i].startsWith("        }"), false);
            }
        }
    }
}

import java.io.IOException;
import java.lang.reflect.Constructor;
import java.lang.reflect.Field;
import java.lang.reflect.Method;
import java.lang.reflect.Modifier;
import java.nio.charset.StandardCharsets;
import java.nio.file.Files;
import java.nio.file.Path;
import java.util.ArrayList;
import java.util.List;
import java.util.Set;
import java.util.TreeSet;
import java.util.regex.Pattern;

/** The face of the document, and what of LANGUAGE.md can be seen from outside or from the source. */
public final class FaceTests {
    private static final String[] FACE = {
        "int village()", "int storm(int,int,int)", "int thing(int,int,int)", "int body(int)", "int type(int)", "int clear()",
        "int read()", "int summers(int)", "int takes(int)", "int undo()", "int of(int,int)", "int about(int,int)",
        "int weather(int,int)", "int draws(int,int)", "int struck(int)", "int then(int)", "int when(int)", "int whence()",
        "int lead(int)", "int spare()", "int order(int,int)", "int seen(int,int)", "int tall(int,int)",
        "int note(int,int,int,int,int)", "int mark(int,int,int,int)", "int forget(int)", "int is(int)", "int look(int)",
        "int kinds(int)", "int ask(int)", "int sweep(int,int)", "int falls(int,int)", "int septembers(int,int)",
        "long part(int)", "int image(int)", "int from(int)", "int status(int)", "int count(int)", "long digest()"};

    private FaceTests() {
    }

    private static String shown(Method method) {
        StringBuilder text = new StringBuilder();
        text.append(method.getReturnType().getName()).append(' ').append(method.getName()).append('(');
        for (int i = 0; i < method.getParameterCount(); i++) {
            text.append(i == 0 ? "" : ",").append(method.getParameterTypes()[i].getName());
        }
        return text.append(')').toString();
    }

    private static void face() {
        Class<?> type = SteepleStruck.class;
        Check.holds("public and final", Modifier.isPublic(type.getModifiers()) && Modifier.isFinal(type.getModifiers()));
        Check.holds("no package", type.getPackageName().isEmpty());
        Set<String> open = new TreeSet<>();
        Set<String> names = new TreeSet<>();
        for (Method method : type.getDeclaredMethods()) {
            if (Modifier.isPublic(method.getModifiers())) {
                open.add(shown(method));
                names.add(method.getName());
                Check.holds(method + " is not static", !Modifier.isStatic(method.getModifiers()));
            } else {
                Check.holds(method + " is private", Modifier.isPrivate(method.getModifiers()));
            }
        }
        Check.holds("the face as told: " + open, open.equals(new TreeSet<>(List.of(FACE))));
        privateNames(type, names);
        for (Constructor<?> constructor : type.getDeclaredConstructors()) {
            Check.holds("one constructor, public", Modifier.isPublic(constructor.getModifiers()) && constructor.getParameterCount() == 0);
        }
        Set<String> constants = new TreeSet<>();
        for (Field field : type.getDeclaredFields()) {
            if (Modifier.isPublic(field.getModifiers())) {
                constants.add(field.getName());
                Check.holds(field + " is a constant", Modifier.isStatic(field.getModifiers()) && Modifier.isFinal(field.getModifiers()));
            } else {
                Check.holds(field + " is private", Modifier.isPrivate(field.getModifiers()));
            }
        }
        Check.holds("the constants as told", constants.equals(new TreeSet<>(List.of("NONE", "BAD", "NO", "FULL"))));
    }

    private static void privateNames(Class<?> type, Set<String> names) {
        List<Class<?>> types = new ArrayList<>(List.of(type.getDeclaredClasses()));
        Check.holds("some twelve classes at most", types.size() < 12);
        for (Class<?> inside : types) {
            Check.holds(inside + " is static and private", Modifier.isStatic(inside.getModifiers()) && Modifier.isPrivate(inside.getModifiers()));
            int fields = 0;
            for (Method method : inside.getDeclaredMethods()) {
                Check.holds(method + " bears no name of the face", !names.contains(method.getName()));
                Check.holds(method + " takes seven at most", method.getParameterCount() <= 7);
            }
            for (Field field : inside.getDeclaredFields()) {
                boolean fixed = Modifier.isStatic(field.getModifiers());
                Check.holds(field + " final if static", !fixed || Modifier.isFinal(field.getModifiers()));
                fields += fixed ? 0 : 1;
            }
            Check.holds(inside + " has some twenty fields at most", fields <= 20);
        }
        for (Method method : type.getDeclaredMethods()) {
            boolean hidden = Modifier.isPrivate(method.getModifiers());
            Check.holds(method + " bears no name of the face", !hidden || !names.contains(method.getName()));
        }
    }

    private static void source(String path) throws IOException {
        byte[] bytes = Files.readAllBytes(Path.of(path));
        boolean plain = true;
        for (byte one : bytes) {
            plain &= one > 0;
        }
        Check.holds("signs are 1 to 127", plain);
        String source = new String(bytes, StandardCharsets.ISO_8859_1);
        String code = source.replaceAll("(?s)/\\*.*?\\*/", "").replaceAll("//[^\n]*", "");
        String[] never = {"\\bthrow", "\\btry\\b", "\\bcatch\\b", "\\bfinally\\b", "\\bsynchronized\\b", "\\bassert\\b", "->", "::",
            "\\bimport\\b", "\\bpackage\\b", "\\binstanceof\\b", "\\bnull\\b", "\\bfloat\\b", "\\bdouble\\b", "\\bvar\\b", "\\bSystem\\b",
            "\\bRandom\\b", "\\bThread\\b", "\\bnative\\b", "Exact\\b", "\\bhashCode\\b", "\\btoString\\b", "\\bprotected\\b", "\\.\\.\\."};
        for (String one : never) {
            Check.holds("no " + one, !Pattern.compile(one).matcher(code).find());
        }
        Check.holds("no static block", !Pattern.compile("static\\s*\\{").matcher(code).find());
        methodsAreShort(code);
        nothingIsMadeInCalls(code);
    }

    private static void methodsAreShort(String code) {
        String[] lines = code.split("\n", -1);
        int start = -1;
        String indent = "";
        for (int i = 0; i < lines.length; i++) {
            boolean opens = lines[i].matches(" +[\\w\\[\\]<> ]+\\([\\w\\[\\]<>, ]*\\) \\{");
            boolean control = lines[i].matches(" +(if|for|while|switch|return|else|do)\\b.*");
            if (opens && !control) {
                start = i;
                indent = lines[i].substring(0, lines[i].length() - lines[i].stripLeading().length());
            }
            if (start >= 0 && lines[i].equals(indent + "}")) {
                Check.holds("short: " + lines[start].strip(), i - start < 60);
                start = -1;
            }
        }
    }

    /** All that is made is made with the object itself: a call makes nothing. */
    private static void nothingIsMadeInCalls(String code) {
        for (String line : code.split("\n")) {
            if (line.contains("new ")) {
                boolean field = line.matches(" +(private )?final \\w+ \\w+ = new \\w+\\(.*\\);");
                boolean row = line.matches(" +(this\\.)?cells = new int\\[Math\\.max\\(.*, 0\\)\\];");
                Check.holds("made with the object: " + line.strip(), field || row);
            }
        }
    }

    public static void main(String[] args) throws IOException {
        face();
        source(args.length > 0 ? args[0] : "src/main/java/SteepleStruck.java");
        Check.end("FaceTests");
    }
}

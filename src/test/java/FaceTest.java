import java.io.IOException;
import java.lang.reflect.Constructor;
import java.lang.reflect.Field;
import java.lang.reflect.Method;
import java.lang.reflect.Modifier;
import java.nio.charset.StandardCharsets;
import java.nio.file.Files;
import java.nio.file.Path;
import java.util.ArrayList;
import java.util.Arrays;
import java.util.Collections;
import java.util.HashSet;
import java.util.List;
import java.util.Set;
import java.util.regex.Pattern;

/** The face is the document's and nothing more, and the source keeps to what LANGUAGE.md lets a text search see. */
public final class FaceTest {
    private static final String[] FACE = {
        "ahead ii IllegalArgumentException", "book i IllegalArgumentException", "cast iii NoSuchElementException",
        "count i", "dries iii NoSuchElementException", "drying ii NoSuchElementException",
        "dryland ii NoSuchElementException", "fault ", "feed iiiii", "first i IllegalArgumentException",
        "fits ii IllegalArgumentException", "greatest i IllegalArgumentException",
        "hour ii NoSuchElementException IllegalArgumentException", "image ", "law i IllegalArgumentException",
        "line ii IllegalArgumentException", "look ii IllegalArgumentException", "loss i NoSuchElementException",
        "mounds i NoSuchElementException", "nearest ii NoSuchElementException", "noon i IllegalArgumentException",
        "pair ii IllegalArgumentException", "pan iii NoSuchElementException IllegalArgumentException",
        "poured iii NoSuchElementException IllegalArgumentException", "ready iii NoSuchElementException",
        "relief i IllegalArgumentException", "restore ", "shade ii NoSuchElementException",
        "site ii IllegalArgumentException", "span iiiiiii NoSuchElementException IllegalArgumentException",
        "status i", "strongest i IllegalArgumentException", "summer iiii IllegalArgumentException",
        "told i IllegalArgumentException", "undo ", "water iiii NoSuchElementException IllegalArgumentException",
        "way iiii NoSuchElementException", "work i IllegalArgumentException", "works i IllegalArgumentException",
        "would iiiiiiii IllegalArgumentException",
    };

    // What the rules leave out, as it would stand in the source with its comments and texts taken away.
    private static final String[] LEFT_OUT = {
        "\\bcatch\\b", "\\btry\\b", "\\bfinally\\b", "\\bsynchronized\\b", "\\bassert\\b", "->", "::", "\\bvar\\b",
        "\\bSystem\\.(?!arraycopy)", "Exact\\b", "\\bThread\\b", "\\bRandom\\b", "\\bhashCode\\b", "\\btoString\\b",
        "\\bpackage\\b", "\\bprotected\\b", "\\bstatic\\s*\\{", "\\bnative\\b", "\\bdouble\\b", "\\bfloat\\b",
    };

    private static int wrong = 0;

    public static void main(String[] args) throws IOException {
        members();
        fields();
        source();
        if (wrong > 0) {
            System.exit(1);
        }
    }

    private static void say(String what) {
        wrong++;
        System.out.println(what);
    }

    private static void members() {
        Set<String> names = new HashSet<>();
        List<String> face = new ArrayList<>();
        for (Method m : SunnyPans.class.getDeclaredMethods()) {
            if (m.isSynthetic() || Modifier.isPrivate(m.getModifiers())) {
                continue;
            }
            StringBuilder b = new StringBuilder(m.getName()).append(' ');
            for (Class<?> type : m.getParameterTypes()) {
                b.append(type == int.class ? "i" : "?");
            }
            for (Class<?> type : m.getExceptionTypes()) {
                b.append(' ').append(type.getSimpleName());
            }
            face.add(b.toString());
            names.add(m.getName());
            if (m.getModifiers() != Modifier.PUBLIC || m.getReturnType() != int.class) {
                say(m + " is not a public method that answers an int");
            }
        }
        Collections.sort(face);
        if (!face.equals(Arrays.asList(FACE))) {
            say("the face is " + face);
        }
        for (Class<?> c : allClasses()) {
            for (Method m : c.getDeclaredMethods()) {
                if (!(c == SunnyPans.class && Modifier.isPublic(m.getModifiers())) && names.contains(m.getName())) {
                    say(m + " bears the name of a method of the face");
                }
                int most = m.getName().equals("would") ? 8 : 7;
                if (m.getParameterCount() > most) {
                    say(m + " takes too many parameters");
                }
            }
        }
        Constructor<?>[] made = SunnyPans.class.getDeclaredConstructors();
        if (made.length != 1 || made[0].getParameterCount() != 0 || !Modifier.isPublic(made[0].getModifiers())) {
            say("the constructor is not the document's");
        }
        if (SunnyPans.class.getModifiers() != (Modifier.PUBLIC | Modifier.FINAL)) {
            say("the class is not public and final");
        }
    }

    private static List<Class<?>> allClasses() {
        List<Class<?>> all = new ArrayList<>();
        all.add(SunnyPans.class);
        all.addAll(Arrays.asList(SunnyPans.class.getDeclaredClasses()));
        return all;
    }

    private static void fields() {
        if (allClasses().size() > 12) {
            say("there are too many classes");
        }
        for (Class<?> c : allClasses()) {
            if (c != SunnyPans.class && !Modifier.isStatic(c.getModifiers())) {
                say(c + " is not static");
            }
            int own = 0;
            for (Field f : c.getDeclaredFields()) {
                int m = f.getModifiers();
                own += Modifier.isStatic(m) ? 0 : 1;
                if (Modifier.isStatic(m) && !Modifier.isFinal(m)) {
                    say(f + " is static, but not final");
                }
                boolean isNone = c == SunnyPans.class && f.getName().equals("NONE") && Modifier.isPublic(m);
                if (c == SunnyPans.class && !isNone && !Modifier.isPrivate(m)) {
                    say(f + " is not private");
                }
            }
            if (own > 20) {
                say(c + " has " + own + " fields");
            }
        }
        if (SunnyPans.NONE != -1) {
            say("NONE is " + SunnyPans.NONE);
        }
    }

    private static void source() throws IOException {
        byte[] bytes = Files.readAllBytes(Path.of("src/main/java/SunnyPans.java"));
        for (byte b : bytes) {
            if (b < 1) {
                say("the source has a byte that is not 1 to 127");
                return;
            }
        }
        String text = new String(bytes, StandardCharsets.US_ASCII)
            .replaceAll("(?s)/\\*.*?\\*/", " ").replaceAll("//[^\n]*", " ").replaceAll("\"[^\"\n]*\"", "\"\"");
        for (String pattern : LEFT_OUT) {
            if (Pattern.compile(pattern).matcher(text).find()) {
                say("the source has what the rules leave out: " + pattern);
            }
        }
        String imports = text.replaceAll("import java\\.util\\.NoSuchElementException;", "");
        if (imports.contains("import ") || imports.contains("java.")) {
            say("the source names a library that it may not");
        }
    }
}

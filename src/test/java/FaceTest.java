import java.io.IOException;
import java.lang.reflect.Constructor;
import java.lang.reflect.Field;
import java.lang.reflect.Member;
import java.lang.reflect.Method;
import java.lang.reflect.Modifier;
import java.nio.charset.StandardCharsets;
import java.nio.file.Files;
import java.nio.file.Path;
import java.util.HashSet;
import java.util.Set;
import java.util.regex.Matcher;
import java.util.regex.Pattern;

/** The document's face, and those rules of LANGUAGE.md that can be seen from outside. */
public final class FaceTest {
    private static final String[] FACE = {
        "int feed(int,int,int,int,int)", "int deed(int)", "int fault()", "int told(int)", "int blot(int,int)",
        "int candidate(int,int)", "int readings()", "int reading(int,int)", "int alive(int)", "int bars()",
        "int gets(int,int,int)", "int goes(int,int)", "int often(int,int)", "boolean sure(int,int)",
        "int coin(int,int)", "int worth(int,int)", "int cleaned(int)", "int settles()", "int fewest(int,int)",
        "int sway(int,int)", "int gains(int)", "int settlement(int)", "int copy(int,int,int)",
        "int habit(int,int,int,int)", "int forget()", "long odds(int)", "long likely(int,int,int)",
        "int likeliest()", "int slips(int)", "int more(int,int)", "int weak(int)", "int holding(int,int)",
        "int struck(int)", "int apart(int,int)", "int middle(int)", "int when(int,int,int,int)",
        "int steps(int,int,int)", "int pairs(int,int)", "int rows(int)", "int bare()", "int image()",
        "int restore()", "int status(int)", "int count(int)",
    };

    public static void main(String[] args) throws IOException {
        faceIsTheDocuments();
        classesInsideAreHidden();
        sourceKeepsTheLanguage();
        Check.end();
    }

    private static void faceIsTheDocuments() {
        Class<?> type = BlottedDeed.class;
        Check.same("NONE", -1, BlottedDeed.NONE);
        Check.same("public final", 1, Modifier.isPublic(type.getModifiers()) && Modifier.isFinal(type.getModifiers()) ? 1 : 0);
        Set<String> names = new HashSet<>();
        Set<String> wanted = new HashSet<>(java.util.List.of(FACE));
        for (Method method : type.getDeclaredMethods()) {
            if (!Modifier.isPrivate(method.getModifiers())) {
                Check.same("the face has " + signature(method), 1, wanted.remove(signature(method)) ? 1 : 0);
                names.add(method.getName());
            }
        }
        Check.same("missing: " + wanted, 0, wanted.size());
        for (Field field : type.getDeclaredFields()) {
            boolean open = !Modifier.isPrivate(field.getModifiers());
            Check.same("open field " + field.getName(), field.getName().equals("NONE") ? 1 : 0, open ? 1 : 0);
        }
        Constructor<?>[] constructors = type.getDeclaredConstructors();
        Check.same("constructors", 1, constructors.length);
        for (Method method : type.getDeclaredMethods()) {
            boolean hidden = Modifier.isPrivate(method.getModifiers());
            Check.same("private " + method.getName(), 0, hidden && names.contains(method.getName()) ? 1 : 0);
        }
        for (Class<?> inside : type.getDeclaredClasses()) {
            for (Method method : inside.getDeclaredMethods()) {
                Check.same(inside.getName() + "." + method.getName(), 0, names.contains(method.getName()) ? 1 : 0);
            }
        }
    }

    private static String signature(Method method) {
        StringBuilder text = new StringBuilder(method.getReturnType().getName()).append(' ').append(method.getName());
        StringBuilder types = new StringBuilder();
        for (Class<?> type : method.getParameterTypes()) {
            types.append(types.length() == 0 ? "" : ",").append(type.getName());
        }
        return text.append('(').append(types).append(')').toString();
    }

    private static void classesInsideAreHidden() {
        Class<?>[] inside = BlottedDeed.class.getDeclaredClasses();
        Check.same("at most twelve classes", 1, inside.length <= 11 ? 1 : 0);
        for (Class<?> type : inside) {
            Check.same(type.getName() + " is static", 1, Modifier.isStatic(type.getModifiers()) ? 1 : 0);
            Check.same(type.getName() + " is open", 0, isOpen(type.getModifiers()) ? 1 : 0);
        }
        staticFieldsAreFinal(BlottedDeed.class);
        for (Class<?> type : inside) {
            staticFieldsAreFinal(type);
        }
    }

    private static boolean isOpen(int modifiers) {
        return Modifier.isPublic(modifiers) || Modifier.isProtected(modifiers);
    }

    private static void staticFieldsAreFinal(Class<?> type) {
        int own = 0;
        for (Field field : type.getDeclaredFields()) {
            Member member = field;
            if (Modifier.isStatic(member.getModifiers())) {
                Check.same(field + " is final", 1, Modifier.isFinal(member.getModifiers()) ? 1 : 0);
            } else {
                own++;
            }
        }
        Check.same(type.getName() + " has some twenty fields", 1, own <= 20 ? 1 : 0);
    }

    private static void sourceKeepsTheLanguage() throws IOException {
        byte[] bytes = Files.readAllBytes(Path.of("src/main/java/BlottedDeed.java"));
        String source = new String(bytes, StandardCharsets.US_ASCII).replaceAll("(?s)/\\*.*?\\*/|//[^\n]*", "");
        String[] barred = {
            "\\btry\\b", "\\bcatch\\b", "\\bfinally\\b", "\\bassert\\b", "\\bsynchronized\\b", "->", "::",
            "\\bdouble\\b", "\\bfloat\\b", "\\bpackage\\b", "\\bSystem\\.(?!arraycopy)", "Exact\\(", "\\bThread\\b",
            "static\\s*\\{", "\\bnull\\s*\\)\\s*\\.",
        };
        for (String pattern : barred) {
            Matcher matcher = Pattern.compile(pattern).matcher(source);
            Check.same("source has " + pattern, 0, matcher.find() ? 1 : 0);
        }
        Matcher imports = Pattern.compile("(?m)^import (.*);").matcher(source);
        while (imports.find()) {
            String name = imports.group(1);
            boolean fine = name.equals("java.util.Arrays") || name.equals("java.util.NoSuchElementException");
            Check.same("import " + name, 1, fine ? 1 : 0);
        }
    }
}

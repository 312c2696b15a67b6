import java.io.IOException;
import java.lang.reflect.Constructor;
import java.lang.reflect.Field;
import java.lang.reflect.Method;
import java.lang.reflect.Modifier;
import java.nio.charset.StandardCharsets;
import java.nio.file.Files;
import java.nio.file.Path;
import java.util.HashSet;
import java.util.List;
import java.util.Set;
import java.util.TreeSet;
import java.util.regex.Matcher;
import java.util.regex.Pattern;

/** The document's face, and of the rules of LANGUAGE.md those that the source's words or the made class tell. */
public final class RulesTest {
    private static final Path SOURCE = Path.of("src/main/java/WindCabinet.java");
    private static final String[] FACE = {
        "int feed(int,int,int,int,int)", "int end(int)", "int text(int,int)", "int fault(int)",
        "int republic(int,int)", "int minister(int,int,int)", "int off(int,int,int,int,int,int)",
        "int vote(int,int,int,int,int,int,boolean)", "int order(int,int,int)", "int broken(int,int,int,int,int,int)",
        "int deed(int,int,int)", "int stop(int,int,int)", "int state(int,int,int,int,int)",
        "int agreed(int,int,int,int,int)", "int power(int,int,boolean)", "int coalition(int,int)",
        "int bribe(int,int,int,int,int,int,boolean)", "int lobby(int,int,int,int,int,int,int)",
        "int bargain(int,int,int)", "int was(int,int,int)", "int nature(int,int,int)", "int seats(int,int,int)",
        "int reshuffle(int,boolean)", "int leak(int,int,int)", "int fits(int,int,int,int,int)",
        "int drawn(int,int,int,int)", "int count(int)", "boolean image(int)", "boolean again(int)",
    };
    private static final String[] FORBIDDEN = {
        "\\bthrow", "\\btry\\b", "\\bcatch\\b", "\\bfinally\\b", "\\bsynchronized\\b", "\\bassert\\b", "->", "::",
        "\\bpackage\\b", "\\bimport (?!java\\.util\\.(Arrays|ArrayList|List|Iterator);)", "\\bSystem\\.(?!arraycopy)",
        "\\bInteger\\.(?!bitCount|compare|max|min)", "\\bMath\\.(?!abs|max|min|floorDiv|floorMod)",
        "\\bArrays\\.(?!copyOf|copyOfRange|fill)", "Exact\\b", "\\bprotected\\b", "\\bwhile \\(true\\)", "\\bfor \\(;;\\)",
        "\\b(equals|hashCode|toString)\\(", "\\bObject\\b", "\\bstatic \\{", "[^\\x00-\\x7f]", "\\t",
    };

    private RulesTest() {
    }

    public static void main(String[] args) throws IOException {
        String source = Files.readString(SOURCE, StandardCharsets.UTF_8);
        face();
        nestedClasses();
        words(source);
        Check.finish();
    }

    private static void face() {
        Class<WindCabinet> c = WindCabinet.class;
        Check.due("public and final", c.getModifiers(), Modifier.PUBLIC | Modifier.FINAL);
        Set<String> face = new TreeSet<>();
        Set<String> names = new HashSet<>();
        for (Method m : c.getDeclaredMethods()) {
            if (Modifier.isPublic(m.getModifiers())) {
                StringBuilder told = new StringBuilder();
                told.append(m.getReturnType().getSimpleName()).append(' ').append(m.getName()).append('(');
                for (Class<?> p : m.getParameterTypes()) {
                    told.append(told.charAt(told.length() - 1) == '(' ? "" : ",").append(p.getSimpleName());
                }
                face.add(told.append(')').toString());
                names.add(m.getName());
            }
        }
        Check.due("the face " + face, face.equals(Set.of(FACE)), true);
        for (Method m : c.getDeclaredMethods()) {
            boolean open = Modifier.isPublic(m.getModifiers());
            Check.due("private or of the face: " + m, open || Modifier.isPrivate(m.getModifiers()), true);
            Check.due("private with a public one's name: " + m, !open && names.contains(m.getName()), false);
        }
        for (Field f : c.getDeclaredFields()) {
            boolean none = f.getName().equals("NONE") && f.getModifiers() == (Modifier.PUBLIC | Modifier.STATIC | Modifier.FINAL);
            Check.due("private or NONE: " + f, none || Modifier.isPrivate(f.getModifiers()), true);
        }
        for (Constructor<?> k : c.getDeclaredConstructors()) {
            Check.due("the constructor " + k, k.getParameterCount() == 0 && k.getModifiers() == Modifier.PUBLIC, true);
        }
        nestedNames(names);
    }

    private static void nestedNames(Set<String> names) {
        for (Class<?> c : WindCabinet.class.getDeclaredClasses()) {
            for (Method m : c.getDeclaredMethods()) {
                Check.due("a method inside with a public one's name: " + m, names.contains(m.getName()), false);
            }
        }
    }

    private static void nestedClasses() {
        Class<?>[] inside = WindCabinet.class.getDeclaredClasses();
        Check.due("some twelve classes", inside.length < 12, true);
        for (Class<?> c : inside) {
            Check.due("static and not open: " + c, Modifier.isStatic(c.getModifiers())
                    && !Modifier.isPublic(c.getModifiers()) && !Modifier.isProtected(c.getModifiers()), true);
            long fields = List.of(c.getDeclaredFields()).stream().filter(f -> !Modifier.isStatic(f.getModifiers())).count();
            Check.due("some twenty fields: " + c, fields <= 20, true);
        }
        for (Class<?> c : inside) {
            statics(c);
        }
        statics(WindCabinet.class);
    }

    private static void statics(Class<?> c) {
        for (Field f : c.getDeclaredFields()) {
            if (Modifier.isStatic(f.getModifiers())) {
                boolean constant = List.of("int", "long", "boolean", "char", "String", "int[]", "long[]", "char[]", "byte[]")
                        .contains(f.getType().getSimpleName());
                Check.due("a constant: " + f, constant && Modifier.isFinal(f.getModifiers()), true);
            }
        }
    }

    private static void words(String source) {
        String bare = source.replaceAll("(?s)/\\*.*?\\*/", "").replaceAll("//[^\n]*", "");
        for (String word : FORBIDDEN) {
            Matcher m = Pattern.compile(word).matcher(bare);
            Check.due("forbidden " + word, m.find(), false);
        }
        Check.due("texts joined by +", Pattern.compile("\" \\+|\\+ \"").matcher(bare).find(), false);
    }
}

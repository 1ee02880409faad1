import java.lang.reflect.Constructor;
import java.lang.reflect.Field;
import java.lang.reflect.Member;
import java.lang.reflect.Method;
import java.lang.reflect.Modifier;
import java.nio.file.Files;
import java.nio.file.Path;
import java.util.List;
import java.util.Set;
import java.util.TreeSet;

/** The face that the document tells, and what of LANGUAGE.md can be seen by a program. */
public final class FaceTest {
    private static final List<String> FACE = List.of("int state(int)", "int officer(int,int)", "int batman(int,int)",
        "boolean set(int,int,int)", "boolean act(int,int,int)", "int days(int)", "int feed(int,int,int,int,int)",
        "boolean end(int)", "int text(int)", "int fault(int)", "int of(int,int)", "int who(int,int)",
        "int book(int,int)", "int goes(int,int)", "int peace()", "int guess(int,int,int)", "int words(int)",
        "int boots(int,int,int)", "int moves(int)", "int billets(int,int)", "int pairs(int,int)",
        "int ahead(int,int,int)", "int feast(int,int)", "int happy(int,int)", "int letter(int,int)",
        "int message(int,int)", "int bit(int)", "int anew(int)", "int queen(int,int)", "int queens(int)",
        "int corner(int,int)", "int within(int,int)", "int area()", "int parts(int,int)",
        "int brackets(int,int,int)", "int game(int,int)", "boolean undo()", "boolean image(boolean)",
        "int look(int)");

    public static void main(String[] args) throws Exception {
        face();
        classes();
        source();
        Due.close("FaceTest");
    }

    private static String told(Method m) {
        StringBuilder s = new StringBuilder(m.getReturnType() + " " + m.getName() + "(");
        for (Class<?> c : m.getParameterTypes()) {
            s.append(s.charAt(s.length() - 1) == '(' ? "" : ",").append(c);
        }
        return s.append(")").toString();
    }

    private static void seen(Member m, boolean may) {
        Due.is(m + " is private", may || Modifier.isPrivate(m.getModifiers()), true);
    }

    private static void face() throws Exception {
        Class<?> c = SlipperTruce.class;
        Due.is("the class is public and final", c.getModifiers(), Modifier.PUBLIC | Modifier.FINAL);
        Set<String> methods = new TreeSet<>();
        Set<String> names = new TreeSet<>();
        for (Method m : c.getDeclaredMethods()) {
            if (Modifier.isPublic(m.getModifiers())) {
                methods.add(told(m));
                names.add(m.getName());
                Due.is(m + " is not static", Modifier.isStatic(m.getModifiers()), false);
            }
            seen(m, Modifier.isPublic(m.getModifiers()));
        }
        Due.is("its methods " + methods, methods.equals(new TreeSet<>(FACE)), true);
        for (Field f : c.getDeclaredFields()) {
            seen(f, f.getName().equals("NONE"));
        }
        Due.is("NONE", c.getField("NONE").getInt(null), -1);
        Due.is("NONE is a constant", c.getField("NONE").getModifiers(),
            Modifier.PUBLIC | Modifier.STATIC | Modifier.FINAL);
        Constructor<?>[] constructors = c.getDeclaredConstructors();
        Due.is("one constructor", constructors.length, 1);
        Due.is("without parameters, public", constructors[0].getParameterCount() == 0
            && Modifier.isPublic(constructors[0].getModifiers()), true);
        Due.is("nothing implemented", c.getInterfaces().length, 0);
        for (Class<?> inner : c.getDeclaredClasses()) {
            for (Method m : inner.getDeclaredMethods()) {
                Due.is(m + " bears no name of the face", names.contains(m.getName()), false);
            }
        }
    }

    private static void classes() {
        Due.is("at most twelve classes", SlipperTruce.class.getDeclaredClasses().length <= 11, true);
        for (Class<?> c : SlipperTruce.class.getDeclaredClasses()) {
            Due.is(c + " is private and static", (c.getModifiers() & (Modifier.PRIVATE | Modifier.STATIC)),
                Modifier.PRIVATE | Modifier.STATIC);
            int fields = 0;
            for (Field f : c.getDeclaredFields()) {
                boolean fixed = Modifier.isStatic(f.getModifiers());
                fields += fixed ? 0 : 1;
                Due.is(f + ": static ones are final", !fixed || Modifier.isFinal(f.getModifiers()), true);
            }
            Due.is(c + " has some twenty fields at most", fields <= 20, true);
            for (Method m : c.getDeclaredMethods()) {
                Due.is(m + " has seven parameters at most", m.getParameterCount() <= 7, true);
                Due.is(m + " is nothing that every object has",
                    List.of("equals", "hashCode", "toString").contains(m.getName()), false);
            }
        }
    }

    private static void source() throws Exception {
        String text = Files.readString(Path.of("src/main/java/SlipperTruce.java"));
        Due.is("signs 1 to 127 alone", text.chars().allMatch(c -> c > 0 && c < 128), true);
        String code = text.replaceAll("(?s)/\\*.*?\\*/", "").replaceAll("//.*", "").replaceAll("\"[^\"\n]*\"", "\"\"");
        String[] none = {"\\bthrow\\b", "\\btry\\b", "\\bcatch\\b", "\\bsynchronized\\b", "\\bassert\\b", "->", "::",
            "\\bimport\\b", "\\bpackage\\b", "\\bvar\\b", "Exact\\b", "\"\"\\s*\\+", "\\+\\s*\"\"", "System\\.",
            "\\bnative\\b", "\\bvolatile\\b", "\\btransient\\b", "static\\s*\\{", "\\bsuper\\b", "\\bObject\\b"};
        for (String word : none) {
            Due.is("none of " + word, java.util.regex.Pattern.compile(word).matcher(code).find(), false);
        }
        int length = 0;
        int depth = 0;
        for (String line : code.split("\n")) {
            boolean begins = line.matches("\\s+[\\w\\[\\] ]+\\(.*\\) \\{") && !line.matches("\\s+(if|for|while|switch).*");
            length = begins ? 0 : length + 1;
            depth += line.replaceAll("[^{]", "").length() - line.replaceAll("[^}]", "").length();
            if (line.matches(" {4,8}\\}")) {
                Due.is("a method of some sixty lines at most, up to " + line + length, length <= 60, true);
            }
        }
        Due.is("brackets are closed", depth, 0);
    }
}

import java.io.IOException;
import java.lang.management.ManagementFactory;
import java.lang.reflect.Constructor;
import java.lang.reflect.Field;
import java.lang.reflect.Member;
import java.lang.reflect.Method;
import java.lang.reflect.Modifier;
import java.nio.file.Files;
import java.nio.file.Path;
import java.util.Arrays;
import java.util.Set;
import java.util.TreeSet;
import java.util.regex.Matcher;
import java.util.regex.Pattern;

/** What of ../shared/LANGUAGE.md can be seen by looking at the class and at its source. */
public final class LanguageTest {
    private static final String FACE = "int row(int,int) int lay(int,int,int) int at(int,int) int tear(int) "
            + "int copy(int,int,int,int,int) int mean(int) int text(int,int) int put(int,int,int) int fault(int) "
            + "int ground(int) int cell(int,int) int law(int) int mark(int,int) int hole(int,int) int dig(int) "
            + "int fill(int) int rain(int,int) int undo(int) int image(int) int on(int) int then(int,int,int) "
            + "int same(int,int,int,int) int which(int,int,int) int doubt(int,int) int fair(int) int shovels(int) "
            + "int suspect(int) int carry(int,int,int) int join(int,int) int part(int) "
            + "int steal(int,int,int,int,int) int share(int,int) int heaps(int) int lies(int) int day(int) "
            + "int grounds(int) int odds(int,int) int gone(int,int,int) int asked() long upper() long lower() "
            + "int count(int) int finding() int findings(int) long digest()";
    private static final String CONSTANTS = "BAD FINDING FULL NONE SPENT STATE";
    private static final String LIBRARY = "Math.abs Math.max Math.min Integer.bitCount System.arraycopy";
    private static final String FORBIDDEN = "throw try catch finally synchronized assert import package record"
            + " volatile native double float String Object";

    private static int wrong;

    public static void main(String[] args) throws IOException {
        face();
        for (Class<?> c : HoleMoved.class.getDeclaredClasses()) {
            inside(c);
        }
        limits(HoleMoved.class);
        due("at most twelve classes", HoleMoved.class.getDeclaredClasses().length + 1 <= 12);
        source(Files.readString(Path.of("src/main/java/HoleMoved.java")));
        room();
        System.out.println(wrong == 0 ? "the language is kept to" : wrong + " rules are not kept to");
        if (wrong != 0) {
            System.exit(1);
        }
    }

    private static void due(String what, boolean holds) {
        if (!holds) {
            wrong++;
            System.out.println("not so: " + what);
        }
    }

    private static String told(Method m) {
        StringBuilder s = new StringBuilder(m.getReturnType() + " " + m.getName() + "(");
        for (Class<?> p : m.getParameterTypes()) {
            s.append(s.charAt(s.length() - 1) == '(' ? "" : ",").append(p.getName());
        }
        return s.append(")").toString();
    }

    private static Set<String> namesOfFace() {
        Set<String> names = new TreeSet<>();
        Matcher m = Pattern.compile("(\\w+)\\(").matcher(FACE);
        while (m.find()) {
            names.add(m.group(1));
        }
        return names;
    }

    private static void face() {
        due("public and final", HoleMoved.class.getModifiers() == (Modifier.PUBLIC | Modifier.FINAL));
        Set<String> shown = new TreeSet<>();
        for (Method m : HoleMoved.class.getDeclaredMethods()) {
            if (Modifier.isPublic(m.getModifiers())) {
                shown.add(told(m));
                due(m + " is no static one", !Modifier.isStatic(m.getModifiers()));
            } else {
                hidden(m);
            }
        }
        due("the document's methods", shown.equals(new TreeSet<>(Arrays.asList(FACE.split(" (?=int \\w|long )")))));
        Set<String> constants = new TreeSet<>();
        for (Field f : HoleMoved.class.getDeclaredFields()) {
            if (Modifier.isPublic(f.getModifiers())) {
                constants.add(f.getName());
                due(f + " is a constant int", Modifier.isStatic(f.getModifiers()) && f.getType() == int.class);
            } else {
                due(f + " is private", Modifier.isPrivate(f.getModifiers()));
            }
        }
        due("the document's constants", String.join(" ", constants).equals(CONSTANTS));
        Constructor<?>[] made = HoleMoved.class.getDeclaredConstructors();
        due("one public constructor", made.length == 1 && Modifier.isPublic(made[0].getModifiers()));
    }

    private static void hidden(Method m) {
        due(m + " is private", Modifier.isPrivate(m.getModifiers()) || m.isSynthetic());
        due(m + " bears no public name", !namesOfFace().contains(m.getName()));
    }

    private static void inside(Class<?> c) {
        due(c + " is static", Modifier.isStatic(c.getModifiers()));
        due(c + " is hidden", !Modifier.isPublic(c.getModifiers()) && !Modifier.isProtected(c.getModifiers()));
        for (Method m : c.getDeclaredMethods()) {
            due(m + " bears no public name", !namesOfFace().contains(m.getName()));
        }
        limits(c);
    }

    private static void limits(Class<?> c) {
        int fields = 0;
        for (Field f : c.getDeclaredFields()) {
            boolean isStatic = Modifier.isStatic(f.getModifiers());
            fields += isStatic ? 0 : 1;
            due(f + " is final", !isStatic || Modifier.isFinal(f.getModifiers()));
        }
        due(c + " has at most twenty fields", fields <= 20);
        for (Method m : c.getDeclaredMethods()) {
            due(m + " takes at most seven", m.getParameterCount() <= 7);
            due(m + " is not synthetic: " + told(m), !((Member) m).isSynthetic());
        }
    }

    private static void source(String text) {
        due("signs of 7 bits", text.chars().allMatch(sign -> sign == '\n' || sign >= 32 && sign < 127));
        String code = text.replaceAll("(?s)/\\*.*?\\*/", " ").replaceAll("//[^\n]*", " ");
        for (String word : FORBIDDEN.split(" ")) {
            due("no " + word, !Pattern.compile("\\b" + word + "\\b").matcher(code).find());
        }
        due("no lambda, no method reference", !code.contains("->") && !code.contains("::"));
        Set<String> library = new TreeSet<>(Arrays.asList(LIBRARY.split(" ")));
        Matcher used = Pattern.compile("\\b(Math|Integer|Long|System|Arrays|Character)\\.\\w+").matcher(code);
        while (used.find()) {
            due(used.group() + " is of the library", library.contains(used.group()));
        }
    }

    /** Calls make no objects: the room is for those that constructors make. */
    private static void room() {
        com.sun.management.ThreadMXBean threads = (com.sun.management.ThreadMXBean) ManagementFactory.getThreadMXBean();
        long id = Thread.currentThread().getId();
        HoleMoved x = new HoleMoved();
        String ground = "1203/0104/1010/0205=0123prsbtd";
        x.text(0, ground.length());
        for (int i = 0; i < ground.length(); i++) {
            x.put(0, i, ground.charAt(i));
        }
        dearCalls(x);
        long before = threads.getThreadAllocatedBytes(id);
        for (int i = 0; i < 20; i++) {
            dearCalls(x);
        }
        long made = threads.getThreadAllocatedBytes(id) - before;
        due("calls make no objects, but made bytes: " + made, made < 20000);
    }

    private static void dearCalls(HoleMoved x) {
        x.ground(0);
        x.image(0);
        x.dig(3);
        x.rain(5, 9);
        x.row(0, 6);
        x.heaps(0);
        x.lies(0);
        x.grounds(0);
        x.day(0);
        x.fair(0);
        x.join(0, 1);
        x.part(0);
        x.carry(0, 1, 1);
        x.mark(4, 4);
        x.odds(0, 3);
        x.gone(0, 8, 3);
        x.digest();
        for (int law = 0; law < 6; law++) {
            x.steal(law, 0, 0, 3, 1);
            x.doubt(law, 0);
        }
    }
}

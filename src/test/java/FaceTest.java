import java.lang.management.ManagementFactory;
import java.lang.reflect.Constructor;
import java.lang.reflect.Field;
import java.lang.reflect.Method;
import java.lang.reflect.Modifier;
import java.nio.file.Files;
import java.nio.file.Path;
import java.util.HashSet;
import java.util.List;
import java.util.Set;
import java.util.TreeSet;

/** The public face, what LANGUAGE.md asks of the file's form, and the room that a run takes. */
public final class FaceTest {
    private static final String FACE = "back() balance(int,int) count(int) covers(int,int,int,int,boolean) days(int) fault(int)"
            + " feed(int,int,int,int,int) fewest(int,int,boolean,int) front(int,int) instead(int) keep() look(int,int)"
            + " minutes(int,int,boolean) missing(int,int,boolean) named(int,int) now(int,int) oldest(int,int) owed(int)"
            + " pane(int,int,int) pay(int,int,int) sell(int,int) shortest(int,int,int) strike(int) swap(int,int) tanks(int,int)"
            + " text(int) top(int,int,int,int,boolean) tour(int) walk(int,int) way(int,int,int) wet(int) wiped(int) worth(int)";

    public static void main(String[] args) throws Exception {
        members();
        source();
        room();
        Kit.end();
    }

    private static void members() {
        Set<String> face = new TreeSet<>();
        Set<String> names = new HashSet<>();
        for (Method m : PaneRounds.class.getDeclaredMethods()) {
            if (Modifier.isPublic(m.getModifiers())) {
                StringBuilder b = new StringBuilder(m.getName()).append('(');
                for (Class<?> c : m.getParameterTypes()) {
                    b.append(b.charAt(b.length() - 1) == '(' ? "" : ",").append(c.getName());
                }
                face.add(b.append(')').toString());
                names.add(m.getName());
                boolean tells = m.getName().equals("sell");
                Kit.due(m.getName() + " answers", m.getReturnType() == (tells ? boolean.class : int.class) ? 1 : 0, 1);
            }
        }
        Kit.due("the face is " + face, String.join(" ", face).equals(FACE) ? 1 : 0, 1);
        for (Class<?> c : PaneRounds.class.getDeclaredClasses()) {
            Kit.due(c + " is static", Modifier.isStatic(c.getModifiers()) ? 1 : 0, 1);
            privateOnes(c, names, false);
        }
        privateOnes(PaneRounds.class, names, true);
        Kit.due("classes", PaneRounds.class.getDeclaredClasses().length < 12 ? 1 : 0, 1);
        Constructor<?>[] made = PaneRounds.class.getDeclaredConstructors();
        Kit.due("constructors", made.length, 1);
        Kit.due("is final and public", PaneRounds.class.getModifiers() & (Modifier.FINAL | Modifier.PUBLIC), Modifier.FINAL | Modifier.PUBLIC);
    }

    private static void privateOnes(Class<?> c, Set<String> face, boolean outer) {
        int own = 0;
        for (Field f : c.getDeclaredFields()) {
            boolean fixed = Modifier.isStatic(f.getModifiers());
            own += fixed ? 0 : 1;
            Kit.due(f + " is final if static", !fixed || Modifier.isFinal(f.getModifiers()) ? 1 : 0, 1);
            boolean open = f.getName().equals("NONE");
            Kit.due(f + " is private", !outer || open == !Modifier.isPrivate(f.getModifiers()) ? 1 : 0, 1);
        }
        Kit.due("fields of " + c, own <= 20 ? 1 : 0, 1);
        for (Method m : c.getDeclaredMethods()) {
            boolean shown = outer && Modifier.isPublic(m.getModifiers());
            Kit.due(m + " has a name of its own", shown || !face.contains(m.getName()) ? 1 : 0, 1);
            Kit.due(m + " is private", shown || !outer || Modifier.isPrivate(m.getModifiers()) ? 1 : 0, 1);
            Kit.due(m + " has at most seven parameters", m.getParameterCount() <= 7 ? 1 : 0, 1);
        }
    }

    private static void source() throws Exception {
        List<String> lines = Files.readAllLines(Path.of("src/main/java/PaneRounds.java"));
        String whole = String.join("\n", lines);
        for (String no : new String[] {"->", "::", "catch", "finally", "synchronized", "assert", "while (true)", "System.out",
            "Exact(", "instanceof", "package "}) {
            Kit.due("no " + no, whole.contains(no) ? 1 : 0, 0);
        }
        int begun = -1;
        for (int i = 0; i < lines.size(); i++) {
            String line = lines.get(i);
            if (line.matches("( {4}| {8})(public|private|int|boolean|void|long|[A-Z]\\w*)[^=;]*\\(.*\\{")) {
                begun = i;
            }
            if (begun >= 0 && (line.equals("    }") || line.equals("        }"))) {
                Kit.due("lines of " + lines.get(begun).trim(), i - begun <= 60 ? 1 : 0, 1);
                begun = -1;
            }
        }
    }

    /** The dearest calls on one object of 512 calls; a field or element is 8 bytes at most. */
    private static void room() {
        com.sun.management.ThreadMXBean bean = (com.sun.management.ThreadMXBean) ManagementFactory.getThreadMXBean();
        String text = "ladder a 9;ladder b 17;pole p 20 1;front f 12 20 pane 0 1 pane 3 9 pane 5 2 pane 9 15 pane 11 4;man m 0 0 600;"
                + "man n 1 1 600;house a f m 0 0 1;house b f n 2 2 1;complain waits>2;trust owes<99;";
        long before = bean.getCurrentThreadAllocatedBytes();
        PaneRounds x = Kit.told(text);
        for (int i = 0; i < 60; i++) {
            x.days(3);
            x.keep();
            x.swap(i, 0);
            x.fewest(0, i % 8, false, 1);
            x.shortest(0, 0, 1);
            x.way(0, 0, 2);
            x.back();
            x.sell(0, i % 2);
        }
        long taken = bean.getCurrentThreadAllocatedBytes() - before;
        Kit.due("bytes taken (" + taken + ") are few", taken < 400000 ? 1 : 0, 1);
    }
}

import java.lang.reflect.Constructor;
import java.lang.reflect.Field;
import java.lang.reflect.Method;
import java.lang.reflect.Modifier;
import java.nio.file.Files;
import java.nio.file.Path;
import java.util.Arrays;
import java.util.Set;
import java.util.TreeSet;
import java.util.regex.Matcher;
import java.util.regex.Pattern;

/** The public face is the document's and no more; words that LANGUAGE.md rules out do not stand. */
public final class FaceTest {
    private static final String[] FACE = {
        "watcher()", "shift(int,int,int)", "dot(int,int,int)", "scan(int,int)", "drop(int)",
        "kind(int,int)", "rule(int,int)", "worlds()", "cost(int)", "gap(int)", "tracks(int)",
        "track(int,int,int)", "account(int,int,int)", "foretell(int,int,int,int)", "ordered(int)",
        "name(int)", "sure(int,int)", "alive(int)", "path(int,int)", "apart(int,int,int)",
        "near(int,int,int)", "pairs(int,int)", "level(int,int,int)", "right(int,int)", "count(int)"
    };
    private static final String[] RULED_OUT = {
        "\\bthrow\\b", "\\btry\\b", "\\bcatch\\b", "\\bsynchronized\\b", "\\bassert\\b", "->", "::",
        "Exact\\b", "\\bimport\\b", "\\bpackage\\b", "\\bprotected\\b", "\\bstatic \\{", "\\bequals\\b",
        "\\bhashCode\\b", "\\btoString\\b"
    };

    private static int wrong = 0;

    private static void check(boolean holds, String what) {
        if (!holds) {
            wrong++;
            System.out.println(what);
        }
    }

    public static void main(String[] args) throws Exception {
        members();
        constants();
        words();
        shape();
        nothingIsMadeByCalls();
        System.out.println(wrong + " wrong");
        if (wrong != 0) {
            System.exit(1);
        }
    }

    private static void members() {
        check(Modifier.isPublic(WhoIsWho.class.getModifiers()), "the class is not public");
        check(Modifier.isFinal(WhoIsWho.class.getModifiers()), "the class is not final");
        Set<String> face = new TreeSet<>(Arrays.asList(FACE));
        Set<String> found = new TreeSet<>();
        Set<String> hidden = new TreeSet<>();
        for (Method m : WhoIsWho.class.getDeclaredMethods()) {
            if (Modifier.isPrivate(m.getModifiers())) {
                hidden.add(m.getName());
                continue;
            }
            check(Modifier.isPublic(m.getModifiers()), m + " is neither public nor private");
            check(m.getReturnType() == int.class, m + " does not answer an int");
            found.add(m.toString().replaceAll(".*WhoIsWho\\.", ""));
        }
        check(found.equals(face), "the methods are " + found + ", due are " + face);
        for (String name : face) {
            check(!hidden.contains(name.replaceAll("\\(.*", "")), name + " is a private method's name, too");
        }
        for (Constructor<?> c : WhoIsWho.class.getDeclaredConstructors()) {
            check(Modifier.isPublic(c.getModifiers()) && c.getParameterCount() == 0, c + " is not due");
        }
        for (Class<?> inner : WhoIsWho.class.getDeclaredClasses()) {
            check(Modifier.isStatic(inner.getModifiers()), inner + " is not static");
        }
    }

    private static void constants() throws Exception {
        Set<String> found = new TreeSet<>();
        for (Field f : WhoIsWho.class.getDeclaredFields()) {
            if (!Modifier.isPrivate(f.getModifiers())) {
                found.add(f.getName() + "=" + f.getInt(null));
            }
        }
        Set<String> due = new TreeSet<>(
                Arrays.asList("NONE=-1", "BAD=-2", "STATE=-3", "FULL=-4", "NO=-2147483648"));
        check(found.equals(due), "the constants are " + found + ", due are " + due);
    }

    private static void words() throws Exception {
        String source = Files.readString(Path.of("src/main/java/WhoIsWho.java"));
        String bare = source.replaceAll("(?s)/\\*.*?\\*/", "").replaceAll("//[^\n]*", "");
        for (String word : RULED_OUT) {
            Matcher m = Pattern.compile(word).matcher(bare);
            check(!m.find(), "the source has " + word);
        }
    }

    /** Rules 2, 5 and 11: how many classes, fields and parameters, how long a method, which statics. */
    private static void shape() throws Exception {
        Class<?>[] inner = WhoIsWho.class.getDeclaredClasses();
        check(inner.length < 12, "the file has more than 12 classes");
        shapeOf(WhoIsWho.class);
        for (Class<?> c : inner) {
            check(!Modifier.isPublic(c.getModifiers()) && !Modifier.isProtected(c.getModifiers()),
                    c + " is public or protected");
            check(!c.isAnonymousClass() && !c.isLocalClass(), c + " is local or anonymous");
            check(c.getDeclaredClasses().length == 0, c + " has classes inside that are not looked at");
            shapeOf(c);
        }
        String source = Files.readString(Path.of("src/main/java/WhoIsWho.java"));
        Matcher method = Pattern.compile("(?m)^( {4}| {8})\\w[^;=\\n]*\\) \\{\\n(?s:.*?)^\\1\\}").matcher(source);
        int found = 0;
        while (method.find()) {
            found++;
            long lines = method.group().lines().count();
            check(lines <= 60, lines + " lines: " + method.group().lines().findFirst().orElse(""));
        }
        check(found > 60, "only " + found + " methods were found in the source");
    }

    private static void shapeOf(Class<?> c) {
        int fields = 0;
        for (Field f : c.getDeclaredFields()) {
            if (Modifier.isStatic(f.getModifiers())) {
                check(Modifier.isFinal(f.getModifiers()), f + " is static and not final");
                check(f.getType() == int.class || f.getType() == int[].class, f + " is no int or row of ints");
            } else {
                fields++;
            }
        }
        check(fields <= 20, c + " has " + fields + " fields");
        for (Method m : c.getDeclaredMethods()) {
            check(m.getParameterCount() <= 7, m + " has too many parameters");
        }
    }

    /** All calls of a run share one room, so that calls make no objects at all. */
    private static void nothingIsMadeByCalls() {
        java.lang.management.ThreadMXBean plain = java.lang.management.ManagementFactory.getThreadMXBean();
        if (!(plain instanceof com.sun.management.ThreadMXBean)) {
            return;
        }
        com.sun.management.ThreadMXBean bean = (com.sun.management.ThreadMXBean) plain;
        WhoIsWho x = new WhoIsWho();
        busy(x);
        bean.getThreadAllocatedBytes(Thread.currentThread().getId());
        long before = bean.getThreadAllocatedBytes(Thread.currentThread().getId());
        busy(x);
        long made = bean.getThreadAllocatedBytes(Thread.currentThread().getId()) - before;
        check(made < 1000, "calls made " + made + " bytes of objects");
    }

    private static void busy(WhoIsWho x) {
        x.watcher();
        x.watcher();
        for (int i = 0; i < 100; i++) {
            x.dot(i, -i, i % 3);
            x.dot(-i, i, i % 4);
            x.scan(i % 2, i);
            x.kind(1, i % 3);
            x.rule(5, 1 + i % 4);
            x.right(0, 1);
            x.count(4);
            x.count(5);
            x.near(0, 1, i);
            x.name(1);
            x.path(0, 1);
            if (i % 9 == 8) {
                x.drop(i % 5);
            }
        }
    }
}

import java.io.IOException;
import java.lang.management.ManagementFactory;
import java.lang.reflect.Field;
import java.lang.reflect.Method;
import java.lang.reflect.Modifier;
import java.nio.file.Files;
import java.nio.file.Path;
import java.util.Arrays;
import java.util.Set;
import java.util.TreeSet;
import java.util.regex.Pattern;

/** What can be seen of LANGUAGE.md: the face, words that may not stand in the class, what a run makes. */
public final class LanguageTest {
    private static final String[] FACE = {"land(int,int)", "line(int,int,int,int,int,int)", "lineOf(int,int)",
        "light(int)", "until(int)", "change(int,int,int)", "year(int)", "hour(int)", "feed(long)", "end(int)",
        "rules()", "fault()", "rule(int)", "rent(int,int)", "demand(int,int,int)", "much(int,int)", "led(int)",
        "way(int,int)", "parts(int,int,int)", "worst(int,int)", "swing(int,int,int)", "swings(int)", "cut(int,int)",
        "echo(int,int,int,int)", "breakOf(int,int)", "quake(int,int,int,int)", "shared(int,int,int)",
        "ship(int,int,int)", "shipOf(int,int)", "send(int,int)", "order(int)", "plain(int)", "owed(int,int)",
        "paid(int,int)", "plan(int,int,int)", "safe(int,int)", "sheet(int,int,int)", "lay(int,int,int)",
        "read(int,int,int)", "count(int)"};
    private static final Due due = new Due();

    public static void main(String[] args) throws IOException {
        face();
        inside();
        words();
        makesNothing();
        due.close();
    }

    private static String shape(Method m) {
        StringBuilder s = new StringBuilder(m.getName()).append('(');
        for (Class<?> p : m.getParameterTypes()) {
            s.append(s.charAt(s.length() - 1) == '(' ? "" : ",").append(p.getName());
        }
        return s.append(')').toString();
    }

    private static void face() {
        Set<String> open = new TreeSet<>();
        for (Method m : LandLines.class.getDeclaredMethods()) {
            if (Modifier.isPublic(m.getModifiers())) {
                due.is(m + " answers an int", m.getReturnType() == int.class ? 1 : 0, 1);
                open.add(shape(m));
            } else {
                due.is(m + " is private", Modifier.isPrivate(m.getModifiers()) ? 1 : 0, 1);
            }
        }
        due.is("the face is the document's: " + open, open.equals(new TreeSet<>(Arrays.asList(FACE))) ? 1 : 0, 1);
        Set<String> constants = new TreeSet<>();
        for (Field f : LandLines.class.getDeclaredFields()) {
            if (Modifier.isPublic(f.getModifiers())) {
                constants.add(f.getName());
            } else {
                due.is(f + " is private", Modifier.isPrivate(f.getModifiers()) ? 1 : 0, 1);
            }
        }
        due.is("constants: " + constants,
                constants.equals(Set.of("BAD", "STATE", "FULL", "NONE", "SPENT")) ? 1 : 0, 1);
        due.is("the class is final", Modifier.isFinal(LandLines.class.getModifiers()) ? 1 : 0, 1);
    }

    private static void inside() {
        Set<String> names = new TreeSet<>();
        for (String f : FACE) {
            names.add(f.substring(0, f.indexOf('(')));
        }
        due.is("at most twelve classes", LandLines.class.getDeclaredClasses().length <= 11 ? 1 : 0, 1);
        for (Class<?> c : LandLines.class.getDeclaredClasses()) {
            due.is(c + " is static", Modifier.isStatic(c.getModifiers()) ? 1 : 0, 1);
            due.is(c + " is not public", Modifier.isPublic(c.getModifiers()) ? 1 : 0, 0);
            for (Method m : c.getDeclaredMethods()) {
                due.is(m + " has a name of its own", names.contains(m.getName()) ? 1 : 0, 0);
                due.is(m + " takes at most seven", m.getParameterCount() <= 7 ? 1 : 0, 1);
            }
            for (Field f : c.getDeclaredFields()) {
                boolean changes = Modifier.isStatic(f.getModifiers()) && !Modifier.isFinal(f.getModifiers());
                due.is(f + " is no static state", changes ? 1 : 0, 0);
            }
        }
    }

    private static void words() throws IOException {
        String text = Files.readString(Path.of("src/main/java/LandLines.java"));
        text = text.replaceAll("(?s)/\\*.*?\\*/", "").replaceAll("//[^\n]*", "").replaceAll("\"[^\"\n]*\"", "\"\"");
        String[] banned = {"\\bthrow\\b", "\\bthrows\\b", "\\btry\\b", "\\bcatch\\b", "\\bsynchronized\\b",
            "\\bassert\\b", "->", "::", "Exact\\b", "\\bvar\\b", "\\bObject\\b", "\\bSystem\\.(?!arraycopy)",
            "\\bpackage\\b", "import (?!java\\.util\\.Arrays;)", "\\bHash", "\\bhashCode\\b", "\\btoString\\b",
            "static \\{", "\"\" \\+", "\\+ \"\"", "\\bprotected\\b"};
        for (String word : banned) {
            due.is("there is no " + word, Pattern.compile(word).matcher(text).find() ? 1 : 0, 0);
        }
    }

    /** Every row is made with the object: no call may make one, for all calls live in one room. */
    private static void makesNothing() {
        LandLines x = new LandLines();
        useAll(x);
        com.sun.management.ThreadMXBean room =
                (com.sun.management.ThreadMXBean) ManagementFactory.getThreadMXBean();
        long self = Thread.currentThread().getId();
        room.getThreadAllocatedBytes(self);
        long before = room.getThreadAllocatedBytes(self);
        useAll(x);
        long made = room.getThreadAllocatedBytes(self) - before;
        due.is("bytes that calls made: " + made, made < 1000 ? 1 : 0, 1);
    }

    private static void useAll(LandLines x) {
        for (int i = 0; i < 8; i++) {
            x.land(11 * i, 99 - 11 * i);
            x.line(i, (i + 3) % 8, i % 2, 3, i, i);
            x.line(i, (i + 1) % 8, i % 2, 3, i, i);
            x.demand(i, (i + 2) % 8, 3 + i);
            x.demand(i, (i + 5) % 8, 1 + i);
            x.plan(i, (i + 4) % 8, 5 + i);
        }
        for (int i = 0; i < 7; i++) {
            x.cut(i, 0);
            x.ship(i, 99, 3);
            x.echo(i, 0, 10, 5);
        }
        for (int i = 0; i < 12; i++) {
            x.lineOf(i, 9);
            x.lineOf(i, 10);
            x.swings(i % 4);
            x.swing(5 * i, i, 1);
            x.way(i, 1);
            x.led(i % 3);
            x.worst(i, i % 2);
            x.order(i);
            x.plain(i % 2);
            x.safe(1 << i % 8 | 1, i % 2);
            x.shared(i % 8, (i + 1) % 8, i);
            x.quake(i, i, i, 0);
            x.until(i);
            x.count(i);
            x.sheet(i % 4, i % 3, 40);
            x.lay(i % 4, i, i);
            x.read(i % 4, i % 3, i);
        }
        for (int i = 0; i < 31; i++) {
            x.feed(0x6c6f737320313b20L);
        }
        x.rules();
        x.owed(0, 0);
        x.paid(0, 0);
    }
}

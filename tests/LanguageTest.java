import java.io.IOException;
import java.lang.management.ManagementFactory;
import java.lang.reflect.Constructor;
import java.lang.reflect.Field;
import java.lang.reflect.Method;
import java.lang.reflect.Modifier;
import java.nio.file.Files;
import java.nio.file.Path;
import java.util.ArrayList;
import java.util.Arrays;
import java.util.List;
import java.util.Set;
import java.util.TreeSet;
import java.util.regex.Matcher;
import java.util.regex.Pattern;

/** The public face, and what of LANGUAGE.md can be seen from outside or in the file. */
public final class LanguageTest {
    private static final Path SOURCE = Path.of("src/main/java/HatDownTheStreet.java");
    private static final String[] FACE = {
        "street int int int", "blow int int int", "wind int", "count int", "feed int int int int int int", "text",
        "force int", "asks int int int int int", "hat int int int", "set int int int", "told int int",
        "come int int int", "does int int int", "at int int int", "pass int", "when int int", "track int int",
        "over int", "round int int", "from int int int", "keeps int int int", "caught int int", "who int int",
        "stand int int int", "wait int int", "pace int int int", "order int int", "gain int int", "whom int int",
        "run int int", "held int int int", "save int", "turned int int int", "lull int int int", "fence int int int",
        "judge int int", "whose int", "lay int int", "kinds int int int", "laws int int", "film int int int",
        "drawn int int int", "odds int int int int", "image", "back", "sheet int int int", "cell int int int",
        "copy int int int int int", "gustsBy int int int int", "taken int int"};

    public static void main(String[] args) throws Exception {
        face();
        constants();
        classes();
        words();
        lengths();
        room();
        Due.end();
    }

    private static void face() {
        Class<?> c = HatDownTheStreet.class;
        Due.holds("public and final", Modifier.isPublic(c.getModifiers()) && Modifier.isFinal(c.getModifiers()));
        Set<String> seen = new TreeSet<>();
        Set<String> names = new TreeSet<>();
        for (Method m : c.getDeclaredMethods()) {
            if (Modifier.isPrivate(m.getModifiers())) {
                continue;
            }
            Due.holds(m.getName() + " is public, of an object", m.getModifiers() == Modifier.PUBLIC);
            Due.holds(m.getName() + " answers as told", m.getReturnType() == (m.getName().equals("odds") ? long.class : int.class));
            StringBuilder s = new StringBuilder(m.getName());
            for (Class<?> p : m.getParameterTypes()) {
                s.append(' ').append(p.getName());
            }
            seen.add(s.toString());
            names.add(m.getName());
        }
        Due.holds("the calls are those of the face", seen.equals(new TreeSet<>(Arrays.asList(FACE))));
        Constructor<?>[] made = c.getDeclaredConstructors();
        Due.holds("one constructor", made.length == 1 && Modifier.isPublic(made[0].getModifiers()) && made[0].getParameterCount() == 0);
        Set<String> fields = new TreeSet<>();
        for (Field f : c.getDeclaredFields()) {
            if (!Modifier.isPrivate(f.getModifiers())) {
                fields.add(f.getName());
            }
        }
        Due.holds("the constants are those of the face", fields.equals(new TreeSet<>(List.of("NONE", "BAD", "STATE", "FULL", "NO"))));
        for (Class<?> k : everyClass()) {
            for (Method m : k.getDeclaredMethods()) {
                boolean isOwn = k == c && Modifier.isPublic(m.getModifiers());
                Due.holds(k.getSimpleName() + "." + m.getName() + " bears no public name", isOwn || !names.contains(m.getName()));
            }
        }
    }

    private static void constants() throws Exception {
        Due.of("The public face", "public static final int NONE = -1, BAD = -2, STATE = -3, FULL = -4;");
        String[] names = {"NONE", "BAD", "STATE", "FULL"};
        for (int i = 0; i < names.length; i++) {
            constant(names[i], int.class, -1 - i);
        }
        Due.of("The public face", "public static final long NO = -4611686018427387904L;");
        constant("NO", long.class, -4611686018427387904L);
    }

    private static void constant(String name, Class<?> type, long value) throws Exception {
        Field f = HatDownTheStreet.class.getDeclaredField(name);
        int is = f.getModifiers();
        Due.holds(name + " is public, static, final", is == (Modifier.PUBLIC | Modifier.STATIC | Modifier.FINAL));
        Due.holds(name + " is of its type", f.getType() == type);
        Due.is(name, f.getLong(null), value);
    }

    private static List<Class<?>> everyClass() {
        List<Class<?>> all = new ArrayList<>();
        all.add(HatDownTheStreet.class);
        all.addAll(Arrays.asList(HatDownTheStreet.class.getDeclaredClasses()));
        return all;
    }

    private static void classes() {
        Due.holds("some twelve classes at most", everyClass().size() <= 14);
        for (Class<?> k : everyClass()) {
            int fields = 0;
            for (Field f : k.getDeclaredFields()) {
                boolean isStatic = Modifier.isStatic(f.getModifiers());
                Due.holds(f + ": static ones are final", !isStatic || Modifier.isFinal(f.getModifiers()));
                Class<?> type = f.getType().isArray() ? f.getType().getComponentType() : f.getType();
                Due.holds(f + ": no static of another type", !isStatic || type.isPrimitive() || type == String.class || type.isEnum());
                fields += isStatic ? 0 : 1;
            }
            Due.holds(k + " has some twenty fields at most", fields <= 22);
            for (Method m : k.getDeclaredMethods()) {
                Due.holds(m + " takes seven at most", m.getParameterCount() <= 7);
            }
            if (k != HatDownTheStreet.class) {
                int is = k.getModifiers();
                Due.holds(k + " is static, not public nor protected", Modifier.isStatic(is) && !Modifier.isPublic(is) && !Modifier.isProtected(is));
            }
        }
    }

    /** Without comments, texts and signs, but with all its lines. */
    private static String bare() throws IOException {
        String s = Files.readString(SOURCE);
        Matcher m = Pattern.compile("(?s)/\\*.*?\\*/|//[^\n]*|\"(?:\\\\.|[^\"\\\\])*\"|'(?:\\\\.|[^'\\\\])*'").matcher(s);
        StringBuilder bare = new StringBuilder();
        while (m.find()) {
            m.appendReplacement(bare, m.group().replaceAll("[^\n]", ""));
        }
        return m.appendTail(bare).toString();
    }

    /** Rules 2, 4, 6 and 13, as far as words show them. */
    private static void words() throws IOException {
        String s = bare();
        Pattern no = Pattern.compile("\\b(throw|throws|try|catch|finally|synchronized|assert|protected|package|native|volatile|"
            + "Object|Thread|Random|Scanner|Locale|hashCode|System\\.(?!arraycopy)\\w+|\\w+Exact)\\b|::|\\)\\s*->|=\\s*\\w+\\s*->");
        Matcher m = no.matcher(s);
        while (m.find()) {
            Due.holds("no '" + m.group() + "' in the file", false);
        }
        Due.holds("a file that is there", s.length() > 1000);
        Matcher imported = Pattern.compile("\\bimport\\s+([\\w.*]+)").matcher(s);
        while (imported.find()) {
            Due.holds(imported.group(1) + " is in the library", imported.group(1).startsWith("java.util."));
        }
    }

    private static void lengths() throws IOException {
        int depth = 0;
        int began = 0;
        int line = 0;
        int inMethod = 0;
        for (String l : bare().split("\n")) {
            line++;
            boolean isMethod = inMethod == 0 && l.matches("\\s+(public |private |static |final )*[\\w\\[\\]]+( \\w+)?\\(.*\\) \\{");
            if (isMethod) {
                inMethod = depth + 1;
                began = line;
            }
            for (char c : l.toCharArray()) {
                depth += c == '{' ? 1 : c == '}' ? -1 : 0;
            }
            if (inMethod > 0 && depth < inMethod) {
                Due.holds("a method of some sixty lines at most, from " + began, line - began < 66);
                inMethod = 0;
            }
        }
        Due.is("braces are even", depth, 0);
    }

    /** All calls of a run have one room: 600,000 objects, 7.3 million fields and elements, here of 16 and 4 bytes each. */
    private static void room() {
        com.sun.management.ThreadMXBean bean = (com.sun.management.ThreadMXBean) ManagementFactory.getThreadMXBean();
        long id = Thread.currentThread().getId();
        dearRun();
        long before = bean.getThreadAllocatedBytes(id);
        dearRun();
        long bytes = bean.getThreadAllocatedBytes(id) - before;
        System.out.println("a run of 451 calls made " + bytes + " bytes");
        Due.holds("a run has room", bytes < 16L * 600000 + 4L * 7300000);
    }

    private static void dearRun() {
        HatDownTheStreet x = new HatDownTheStreet();
        for (int h = 0; h < 4; h++) {
            x.hat(10 * h + 9, h, 1);
            x.come(31 - h, 1, 1);
            x.film(h, h, 25);
        }
        for (int i = 0; i < 24; i++) {
            x.blow(i, i % 4, 9 - i % 7);
        }
        x.street(1, 13, 1);
        int sum = 0;
        for (int i = 0; i < 18; i++) {
            int h = i % 4;
            sum += x.round(h, 0) + x.keeps(h, 24, 0) + x.from(h, 24, 0) + x.order(h, 0) + x.stand(h, h, 0) + x.save(h);
            sum += x.lull(h, h, 0) + x.fence(h, h, 0) + x.whose(h) + x.lay(h, h) + x.kinds(h, h, 1) + x.laws(h, h);
            sum += (int) x.odds(i, 30, 11 * h, 0) + x.image() + x.pass(1) + x.back() + x.sheet(h, 2, 25) + x.film(h, h, 25);
            sum += x.feed(5, 'g', 'o', 'e', 's', ' ') + x.text() + x.gustsBy(h, 2, 0, 8) + x.copy(h, 0, h, 1, 20) + x.whom(h, 0);
        }
        Due.holds("it runs", sum != 0);
    }
}

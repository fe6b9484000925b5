import java.io.IOException;
import java.lang.reflect.Constructor;
import java.lang.reflect.Field;
import java.lang.reflect.Method;
import java.lang.reflect.Modifier;
import java.nio.file.Files;
import java.nio.file.Path;
import java.util.ArrayList;
import java.util.List;
import java.util.TreeSet;
import java.util.regex.Matcher;
import java.util.regex.Pattern;

/** The public face, and those rules of LANGUAGE.md that can be seen from outside. */
public final class FaceTest {
    private static final Check CHECK = new Check("FaceTest");
    private static final Path SOURCE = Path.of("src/main/java/DifferenceFamilies.java");
    private static final Path DOCUMENT = Path.of("../shared/DOC.md");
    private static final long MOST_OBJECTS = 60;

    public static void main(String[] args) throws IOException {
        constants();
        methodsOfTheDocument();
        membersOfTheClass();
        wordsOutsideTheLanguage();
        roomOfARun();
        CHECK.end();
    }

    private static void constants() {
        CHECK.holds("BAD_VALUE is -1", DifferenceFamilies.BAD_VALUE == -1);
        CHECK.holds("FULL is -2", DifferenceFamilies.FULL == -2);
        CHECK.holds("NOT_POSSIBLE is -3", DifferenceFamilies.NOT_POSSIBLE == -3);
        CHECK.holds("NONE is -4", DifferenceFamilies.NONE == -4);
    }

    private static void methodsOfTheDocument() throws IOException {
        TreeSet<String> due = new TreeSet<>();
        Matcher line = Pattern.compile("(?m)^    public (int|long) (\\w+)\\((.*)\\);$").matcher(Files.readString(DOCUMENT));
        while (line.find()) {
            int parameters = line.group(3).isEmpty() ? 0 : line.group(3).split(",").length;
            due.add(line.group(1) + " " + line.group(2) + " " + parameters);
        }
        TreeSet<String> found = new TreeSet<>();
        for (Method method : DifferenceFamilies.class.getDeclaredMethods()) {
            if (Modifier.isPublic(method.getModifiers())) {
                found.add(method.getReturnType() + " " + method.getName() + " " + method.getParameterCount());
            }
        }
        CHECK.holds("the document has 49 methods", due.size() == 49);
        CHECK.holds("the public methods are those of the document: " + found, due.equals(found));
    }

    private static void membersOfTheClass() {
        int modifiers = DifferenceFamilies.class.getModifiers();
        CHECK.holds("the class is public and final", Modifier.isPublic(modifiers) && Modifier.isFinal(modifiers));
        TreeSet<String> open = new TreeSet<>();
        for (Field field : DifferenceFamilies.class.getDeclaredFields()) {
            if (!Modifier.isPrivate(field.getModifiers())) {
                open.add(field.getName());
            }
        }
        CHECK.holds("only the four constants are not private", open.equals(
                new TreeSet<>(List.of("BAD_VALUE", "FULL", "NONE", "NOT_POSSIBLE"))));
        Constructor<?>[] constructors = DifferenceFamilies.class.getDeclaredConstructors();
        CHECK.holds("there is one constructor, without parameters",
                constructors.length == 1 && constructors[0].getParameterCount() == 0);
        List<Class<?>> classes = new ArrayList<>(List.of(DifferenceFamilies.class.getDeclaredClasses()));
        CHECK.holds("there are at most twelve classes", classes.size() < 12);
        TreeSet<String> publicNames = new TreeSet<>();
        for (Method method : DifferenceFamilies.class.getDeclaredMethods()) {
            if (Modifier.isPublic(method.getModifiers())) {
                publicNames.add(method.getName());
            }
        }
        for (Class<?> inside : classes) {
            CHECK.holds(inside + " is static", Modifier.isStatic(inside.getModifiers()));
            checkNames(inside, publicNames);
        }
        checkNames(DifferenceFamilies.class, publicNames);
    }

    private static void checkNames(Class<?> owner, TreeSet<String> publicNames) {
        int fields = 0;
        for (Field field : owner.getDeclaredFields()) {
            boolean isConstant = Modifier.isStatic(field.getModifiers());
            CHECK.holds(field + " is final if it is static", !isConstant || Modifier.isFinal(field.getModifiers()));
            fields += isConstant ? 0 : 1;
        }
        CHECK.holds(owner + " has at most twenty fields", fields <= 20);
        for (Method method : owner.getDeclaredMethods()) {
            boolean isPublic = Modifier.isPublic(method.getModifiers());
            CHECK.holds(method + " has a name of its own", isPublic || !publicNames.contains(method.getName()));
            CHECK.holds(method + " has at most seven parameters", method.getParameterCount() <= 7);
        }
    }

    private static void wordsOutsideTheLanguage() throws IOException {
        String source = Files.readString(SOURCE).replaceAll("(?s)/\\*.*?\\*/", "").replaceAll("//.*", "");
        String[] words = {"throw", "throws", "try", "catch", "synchronized", "assert", "package", "Random", "Thread",
            "protected", "lambda", "hashCode", "toString", "Object", "System.out", "System.nanoTime"};
        for (String word : words) {
            boolean isThere = Pattern.compile("\\b" + Pattern.quote(word) + "\\b").matcher(source).find();
            CHECK.holds("the source has no " + word, !isThere);
        }
        CHECK.holds("the source has no arrow and no method reference", !source.contains("->") && !source.contains("::"));
        Matcher imports = Pattern.compile("(?m)^import (.*);$").matcher(source);
        while (imports.find()) {
            CHECK.holds("the import of " + imports.group(1), imports.group(1).equals("java.util.Arrays"));
        }
        int made = 0;
        Matcher news = Pattern.compile("\\bnew ").matcher(source);
        while (news.find()) {
            made++;
        }
        CHECK.holds("few things are made: " + made, made < MOST_OBJECTS);
    }

    /** Rows are made with the object alone: a run of the dearest calls leaves the heap as it is. */
    private static void roomOfARun() {
        com.sun.management.ThreadMXBean threads =
                (com.sun.management.ThreadMXBean) java.lang.management.ManagementFactory.getThreadMXBean();
        long own = Thread.currentThread().getId();
        dearestCalls(new DifferenceFamilies());
        long start = threads.getThreadAllocatedBytes(own);
        DifferenceFamilies x = new DifferenceFamilies();
        long made = threads.getThreadAllocatedBytes(own);
        dearestCalls(x);
        long end = threads.getThreadAllocatedBytes(own);
        CHECK.holds("an object takes less than 100 kB: " + (made - start), made - start < 100_000);
        CHECK.holds("calls take no room: " + (end - made), end - made < 10_000);
    }

    private static void dearestCalls(DifferenceFamilies x) {
        for (int round = 0; round < 3; round++) {
            x.setGroup(5, 5);
            for (int block = 0; block < 6; block++) {
                for (int e = block % 2; e < 25; e += 2) {
                    x.put(block, e);
                }
            }
            x.keep(1);
            x.improve(2);
            x.exchange(0, 0, 1);
            x.undo();
            x.rank(7);
            x.intersections(5);
            x.checksum();
            x.isEquivalent(1);
            x.restore(1);
            x.search(5, 9, 4, 1, 5000);
            x.takeSolution();
            x.append('0');
            x.read();
        }
    }
}

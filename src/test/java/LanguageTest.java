import java.lang.reflect.Constructor;
import java.lang.reflect.Field;
import java.lang.reflect.Method;
import java.lang.reflect.Modifier;
import java.nio.file.Files;
import java.nio.file.Path;
import java.util.HashSet;
import java.util.Set;
import java.util.TreeSet;
import java.util.regex.Pattern;

/** Rules of ../shared/LANGUAGE.md that can be seen from the text and from the compiled classes. */
public final class LanguageTest {
    private static final Due DUE = new Due();
    private static final Path SOURCE = Path.of("src/main/java/CribBooklet.java");
    private static final String[] FORBIDDEN_WORDS = {
        "throw", "throws", "try", "catch", "finally", "synchronized", "assert", "var", "yield", "interface\\s*@",
        "equals", "hashCode", "toString", "System\\.out", "System\\.err", "System\\.exit", "System\\.nano\\w*",
        "Thread", "Random", "Scanner", "Map", "Set", "Iterator", "Object", "Exception", "package"
    };

    public static void main(String[] args) throws Exception {
        face();
        classes();
        words();
        room();
        DUE.end();
    }

    /** The class has the document's face, and nothing else of it is seen from outside. */
    private static void face() throws Exception {
        DUE.of("rule 1");
        Face face = new Face(Path.of("../shared/DOC.md"));
        String source = Files.readString(SOURCE);
        Set<String> due = new TreeSet<>();
        for (Face.Row method : face.methods) {
            due.add(method.name() + "/" + method.parameters().size());
            DUE.holds("the source has " + method.line(), source.contains("    " + method.line() + " {\n"));
        }
        Set<String> names = new HashSet<>();
        Set<String> found = new TreeSet<>();
        for (Method method : CribBooklet.class.getDeclaredMethods()) {
            if (Modifier.isPublic(method.getModifiers())) {
                found.add(method.getName() + "/" + method.getParameterCount());
                names.add(method.getName());
                DUE.holds(method + " is no static one", !Modifier.isStatic(method.getModifiers()));
                DUE.holds(method + " answers an int", method.getReturnType() == int.class);
                for (Class<?> type : method.getParameterTypes()) {
                    DUE.holds(method + " takes ints", type == int.class);
                }
            } else {
                DUE.holds(method + " is private", Modifier.isPrivate(method.getModifiers()));
            }
        }
        DUE.holds("the public methods are " + due + ", not " + found, due.equals(found));
        for (Face.Constant constant : face.constants) {
            Field field = CribBooklet.class.getField(constant.name());
            DUE.holds(field + " is a constant", Modifier.isStatic(field.getModifiers())
                    && Modifier.isFinal(field.getModifiers()) && field.getType() == int.class);
            DUE.is(constant.name(), field.getInt(null), constant.value());
        }
        for (Class<?> type : allClasses()) {
            for (Method method : type.getDeclaredMethods()) {
                boolean isPublic = type == CribBooklet.class && Modifier.isPublic(method.getModifiers());
                DUE.holds(method + " has a name of its own", isPublic || !names.contains(method.getName()));
            }
        }
        int constants = 0;
        for (Field field : CribBooklet.class.getDeclaredFields()) {
            if (Modifier.isPublic(field.getModifiers())) {
                constants++;
            } else {
                DUE.holds(field + " is private", Modifier.isPrivate(field.getModifiers()));
            }
        }
        DUE.is("public constants", constants, face.constants.size());
        Constructor<?>[] constructors = CribBooklet.class.getDeclaredConstructors();
        DUE.is("constructors", constructors.length, 1);
        DUE.is("its parameters", constructors[0].getParameterCount(), 0);
        DUE.holds("it is public", Modifier.isPublic(constructors[0].getModifiers()));
        DUE.holds("the class is public and final", Modifier.isPublic(CribBooklet.class.getModifiers())
                && Modifier.isFinal(CribBooklet.class.getModifiers()));
    }

    private static Class<?>[] allClasses() {
        Class<?>[] inside = CribBooklet.class.getDeclaredClasses();
        Class<?>[] all = new Class<?>[inside.length + 1];
        all[0] = CribBooklet.class;
        System.arraycopy(inside, 0, all, 1, inside.length);
        return all;
    }

    private static void classes() {
        DUE.of("rules 2, 5 and 11");
        DUE.holds("some twelve classes", allClasses().length <= 12);
        for (Class<?> type : allClasses()) {
            boolean isInside = type != CribBooklet.class;
            DUE.holds(type + " is static", !isInside || Modifier.isStatic(type.getModifiers()));
            DUE.holds(type + " is not public", !isInside || !Modifier.isPublic(type.getModifiers()));
            DUE.is("classes in " + type, isInside ? type.getDeclaredClasses().length : 0, 0);
            int fields = 0;
            for (Field field : type.getDeclaredFields()) {
                if (Modifier.isStatic(field.getModifiers())) {
                    DUE.holds(field + " is final", Modifier.isFinal(field.getModifiers()));
                    DUE.holds(field + " is a constant", field.getType().isPrimitive() || field.getType() == String.class);
                } else {
                    fields++;
                }
            }
            DUE.holds(type + " has some twenty fields", fields <= 20);
            for (Method method : type.getDeclaredMethods()) {
                DUE.holds(method + " takes at most seven parameters", method.getParameterCount() <= 7);
            }
        }
    }

    private static void words() throws Exception {
        DUE.of("rules 4, 6 and 13");
        String source = Files.readString(SOURCE);
        String code = source.replaceAll("(?s)/\\*.*?\\*/", "").replaceAll("//[^\n]*", "").replaceAll("\"[^\"]*\"", "\"\"");
        for (String word : FORBIDDEN_WORDS) {
            DUE.holds("no " + word, !Pattern.compile("\\b" + word + "\\b").matcher(code).find());
        }
        for (String sign : new String[] {"->", "::", "@", "?>"}) {
            DUE.holds("no " + sign, !code.contains(sign));
        }
        DUE.holds("only java.util.Arrays is imported",
                code.replace("import java.util.Arrays;", "").indexOf("import") < 0);
        for (int i = 0; i < source.length(); i++) {
            DUE.holds("sign " + i + " is one of 1 to 127", source.charAt(i) >= 1 && source.charAt(i) <= 127);
        }
    }

    /** All calls of a run live in one room: a call makes nothing that is kept or thrown away. */
    private static void room() {
        DUE.of("rule 12");
        java.lang.management.ThreadMXBean bean = java.lang.management.ManagementFactory.getThreadMXBean();
        if (!(bean instanceof com.sun.management.ThreadMXBean)) {
            return;
        }
        com.sun.management.ThreadMXBean meter = (com.sun.management.ThreadMXBean) bean;
        CribBooklet booklet = new CribBooklet();
        useAll(booklet);
        long before = meter.getCurrentThreadAllocatedBytes();
        useAll(booklet);
        long made = meter.getCurrentThreadAllocatedBytes() - before;
        DUE.holds("the calls made " + made + " bytes", made < 50_000);
    }

    private static void useAll(CribBooklet booklet) {
        for (int i = 0; i < 3; i++) {
            booklet.setSheet(4, 4);
            booklet.printAll(1313);
            for (int fold : new int[] {1, 3, 1, 3}) {
                booklet.fold(fold);
            }
            booklet.addNote(i, i, 5, 1);
            booklet.note(0, 4);
            booklet.index(0, 0);
            booklet.page(3, 7);
            booklet.pieces();
            booklet.reading(0);
            booklet.see(0, 0, 0);
            booklet.fitting(0);
            booklet.best(0);
            booklet.take(0);
            booklet.restore(0);
            for (char c : "note 1 2 3 whole; lines 4; cut left; staple 3;".toCharArray()) {
                booklet.append(c);
            }
            booklet.run();
            booklet.undo();
        }
    }
}

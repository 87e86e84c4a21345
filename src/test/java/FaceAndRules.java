import java.lang.reflect.Array;
import java.lang.reflect.Constructor;
import java.lang.reflect.Field;
import java.lang.reflect.Member;
import java.lang.reflect.Method;
import java.lang.reflect.Modifier;
import java.nio.charset.StandardCharsets;
import java.nio.file.Files;
import java.nio.file.Path;
import java.util.Collections;
import java.util.IdentityHashMap;
import java.util.Set;
import java.util.TreeSet;
import java.util.regex.Matcher;
import java.util.regex.Pattern;

/** The document's face, and those rules of LANGUAGE.md that can be told by looking at the class and its text. */
public final class FaceAndRules extends Kit {
    private static final Class<?> FACE = HushNet.class;

    public static void main(String[] args) throws Exception {
        String doc = Files.readString(Path.of("../shared/DOC.md"), StandardCharsets.ISO_8859_1);
        String source = Files.readString(Path.of("src/main/java/HushNet.java"), StandardCharsets.ISO_8859_1);
        sameFace(doc);
        nothingElseToSee();
        classesInside();
        fieldsOfClasses();
        methodsOfClasses();
        words(bare(source));
        texts(source);
        room();
        finish("FaceAndRules");
    }

    // ---- The face ----
    /** 'public int back(int n);' as 'int back(int)'. */
    private static Set<String> told(String doc) {
        String face = doc.substring(doc.indexOf("## The public face"), doc.indexOf("## Terms"));
        Set<String> all = new TreeSet<>();
        Matcher line = Pattern.compile("(?m)^    public ([^;=]+)").matcher(face);
        while (line.find()) {
            String member = line.group(1).replaceAll("(int|boolean) \\w+(?=[,)])", "$1").replace(", ", ",").trim();
            all.add(member);
        }
        return all;
    }

    private static String told(Method m) {
        return m.getReturnType() + " " + m.getName() + types(m.getParameterTypes()) + thrown(m.getExceptionTypes());
    }

    private static String types(Class<?>[] types) {
        StringBuilder all = new StringBuilder("(");
        for (Class<?> type : types) all.append(all.length() > 1 ? "," : "").append(type.getSimpleName());
        return all.append(")").toString();
    }

    private static String thrown(Class<?>[] types) {
        return types.length == 0 ? "" : " throws " + types(types).replaceAll("[()]", "");
    }

    private static void sameFace(String doc) {
        says("The public face");
        Set<String> due = told(doc);
        Set<String> got = new TreeSet<>();
        for (Method m : FACE.getDeclaredMethods()) if (Modifier.isPublic(m.getModifiers())) got.add(told(m));
        for (Constructor<?> c : FACE.getDeclaredConstructors()) got.add("HushNet" + types(c.getParameterTypes()));
        for (Field f : FACE.getDeclaredFields()) {
            if (Modifier.isPublic(f.getModifiers())) got.add(Modifier.toString(f.getModifiers()).substring(7) + " " + f.getType() + " " + f.getName());
        }
        due("how many members the document tells", due.size(), 38);
        for (String member : due) due("has " + member, got.contains(member), true);
        for (String member : got) due("the document has " + member, due.contains(member), true);
        due("public final class", FACE.getModifiers(), Modifier.PUBLIC | Modifier.FINAL);
        due("a class above it", FACE.getSuperclass() == Object.class && FACE.getInterfaces().length == 0, true);
    }

    private static void nothingElseToSee() {
        says("rule 1: no other public, protected or package-visible member; no private method bears the name of a public one");
        Set<String> names = new TreeSet<>();
        for (Method m : FACE.getDeclaredMethods()) if (Modifier.isPublic(m.getModifiers())) names.add(m.getName());
        for (Method m : FACE.getDeclaredMethods()) {
            boolean isPrivate = Modifier.isPrivate(m.getModifiers());
            due(m.toString(), isPrivate || Modifier.isPublic(m.getModifiers()), true);
            due(m + " bears a public one's name", isPrivate && names.contains(m.getName()), false);
        }
        for (Field f : FACE.getDeclaredFields()) due(f.toString(), isPrivateOrPublic(f), true);
        for (Constructor<?> c : FACE.getDeclaredConstructors()) due(c.toString(), Modifier.isPublic(c.getModifiers()), true);
    }

    private static boolean isPrivateOrPublic(Member m) {
        return Modifier.isPrivate(m.getModifiers()) || Modifier.isPublic(m.getModifiers());
    }

    // ---- The classes ----
    private static void classesInside() {
        says("rules 1, 2, 11: private or package-visible and static, at most some twelve");
        due("classes", FACE.getDeclaredClasses().length < 12, true);
        for (Class<?> c : FACE.getDeclaredClasses()) {
            int m = c.getModifiers();
            due(c.toString(), Modifier.isStatic(m) && !Modifier.isPublic(m) && !Modifier.isProtected(m), true);
            due(c + " has classes of its own", c.getDeclaredClasses().length, 0);
        }
    }

    private static void fieldsOfClasses() {
        says("rules 3, 5, 11: the fields' types, no static state, some twenty fields a class");
        fieldsOf(FACE);
        for (Class<?> c : FACE.getDeclaredClasses()) fieldsOf(c);
    }

    private static void fieldsOf(Class<?> c) {
        int own = 0;
        for (Field f : c.getDeclaredFields()) {
            boolean isStatic = Modifier.isStatic(f.getModifiers());
            own += isStatic ? 0 : 1;
            due(f + " is final", !isStatic || Modifier.isFinal(f.getModifiers()), true);
            due(f + " is a constant", !isStatic || f.getType().isPrimitive() || f.getType() == String.class, true);
            due(f + " is of a type that may be", isType(f.getType()), true);
        }
        due(c + " has " + own + " fields", own <= 20, true);
    }

    private static boolean isType(Class<?> type) {
        Class<?> of = type.isArray() ? type.getComponentType() : type;
        if (of.isArray()) return of.getComponentType().isPrimitive() && of.getComponentType() != boolean.class;
        return of.isPrimitive() || of.getDeclaringClass() == FACE || type == String.class;
    }

    private static void methodsOfClasses() {
        says("rules 6, 11: a method takes at most seven parameters; no equals, hashCode, toString");
        methodsOf(FACE);
        for (Class<?> c : FACE.getDeclaredClasses()) methodsOf(c);
    }

    private static void methodsOf(Class<?> c) {
        for (Method m : c.getDeclaredMethods()) {
            due(m.toString(), m.getParameterCount() <= 7, true);
            due(m.toString(), m.getName().matches("equals|hashCode|toString|finalize"), false);
        }
    }

    // ---- The text ----
    /** The text without what comments and constants say. */
    private static String bare(String source) {
        return source.replaceAll("(?s)/\\*.*?\\*/", "").replaceAll("//[^\n]*", "").replaceAll("\"[^\"\n]*\"", "\"\"").replaceAll("'[^']+'", "' '");
    }

    private static void words(String bare) {
        says("rules 2, 4, 6, 10, 13: words that the class has not");
        String[] none = {"->", "::", "@", "\"\" \\+", "\\+ \"\"", "\\bfinally\\b", "\\bsynchronized\\b", "\\bassert\\b", "\\bvolatile\\b",
                "\\bnative\\b", "\\btransient\\b", "\\bstatic \\{", "\\bpackage\\b", "\\bprotected\\b", "\\bThread\\b", "\\bObject\\b",
                "Exact\\(", "\\bSystem\\.(?!arraycopy)", "\\bMath\\.random"};
        for (String word : none) due(word, Pattern.compile(word).matcher(bare).find(), false);
        Matcher imports = Pattern.compile("import [^;]+").matcher(bare);
        while (imports.find()) due(imports.group(), imports.group().equals("import java.util.NoSuchElementException"), true);
        String exceptions = "(IllegalState|IllegalArgument|IndexOutOfBounds|Arithmetic|UnsupportedOperation|NoSuchElement|Runtime)Exception";
        Matcher thrown = Pattern.compile("\\bthrow\\b[^;]+").matcher(bare);
        while (thrown.find()) due(thrown.group(), thrown.group().matches("throw new " + exceptions + "\\((\"\")?\\)"), true);
    }

    private static void texts(String source) {
        says("rule 4: constants, whose signs are 1 to 127");
        int others = 0;
        for (int i = 0; i < source.length(); i++) if (source.charAt(i) < 1 || source.charAt(i) > 127) others++;
        due("other signs", others, 0);
    }

    // ---- The room ----
    private static long objects;
    private static long elements;
    private static final Set<Object> SEEN = Collections.newSetFromMap(new IdentityHashMap<>());

    /** Rows are made in the constructors: what hangs on an object is the same ahead of all calls and behind them. */
    private static void room() throws Exception {
        says("rule 12 and the room: 600,000 objects and arrays, 7.3 million fields and elements for all calls of a run");
        HushNet x = new HushNet();
        count(x);
        long objectsAhead = objects;
        long elementsAhead = elements;
        due(objects + " objects", objects < 1000, true);
        due(elements + " fields and elements", elements < 20000, true);
        for (int i = 0; i < 10; i++) x.spot();
        for (int i = 0; i < 24; i++) x.way(i % 10, (i + 1 + i / 10) % 10, 9);
        for (int i = 0; i < 8; i++) x.agent(i, 255);
        read(x, codes("meet 1 for 9 tell 0; end", "meet 0 for 9 end"));
        for (int i = 0; i < 8; i++) x.give(i, i % 2);
        for (int i = 0; i < 150; i++) x.sight(i % 8, i % 10, i % 96);
        x.run(150);
        x.fed(255, 3, 0, 95, true, 9);
        count(x);
        due("objects", objects, objectsAhead);
        due("fields and elements", elements, elementsAhead);
    }

    private static void count(HushNet x) throws Exception {
        objects = 0;
        elements = 0;
        SEEN.clear();
        countFrom(x);
    }

    private static void countFrom(Object o) throws Exception {
        if (o == null || !SEEN.add(o)) return;
        objects++;
        Class<?> c = o.getClass();
        if (c.isArray()) {
            elements += Array.getLength(o);
            for (int i = 0; i < Array.getLength(o) && !c.getComponentType().isPrimitive(); i++) countFrom(Array.get(o, i));
            return;
        }
        for (Field f : c.getDeclaredFields()) {
            if (Modifier.isStatic(f.getModifiers())) continue;
            elements++;
            f.setAccessible(true);
            if (!f.getType().isPrimitive()) countFrom(f.get(o));
        }
    }
}

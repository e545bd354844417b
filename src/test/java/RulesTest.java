import java.io.IOException;
import java.lang.management.ManagementFactory;
import java.lang.reflect.Constructor;
import java.lang.reflect.Field;
import java.lang.reflect.Method;
import java.lang.reflect.Modifier;
import java.nio.file.Files;
import java.nio.file.Path;
import java.util.ArrayList;
import java.util.Arrays;
import java.util.List;
import java.util.Set;
import java.util.TreeSet;
import java.util.regex.Pattern;

/** The face of the document, and those rules of LANGUAGE.md that a text or a count can show. */
public final class RulesTest {
    private static final Due DUE = new Due("RulesTest");
    private static final Path SOURCE = Path.of("src/main/java/ChalkMarket.java");
    private static final Path DOC = Path.of("../shared/DOC.md");
    private static final String[] METHODS = {"int one(int,int,int,int)", "int cart(int,int)", "int day(int)", "int say(int)",
        "int wipe()", "int fault()", "int judge(int)", "int done()", "int behind(int,int)", "int comes(int)", "int then(int)",
        "int chalk(int)", "int sway(int)", "int needed(int,int,int,int,int)", "int trade(int,int,int,int)",
        "int seen(int,int,int)", "int forget()", "int slates(int)", "int ask(int)", "int cakes(int,int,int)",
        "long rung(int,int,int,int,int)", "int year(int,int,int)", "int image(int)", "int restore(int)", "int told(int)"};
    private static final String[] CONSTANTS = {"int FULL = -4", "int NO = -5", "int NONE = -6", "int OUTSIDE = -2",
        "int STATE = -3", "int UNKNOWN = -1", "long LOST = -1000000000000000000"};

    public static void main(String[] args) throws Exception {
        face();
        faceAsTheDocumentHasIt();
        insideClasses();
        source();
        noCallMakesObjects();
        DUE.end();
    }

    private static void face() throws IllegalAccessException {
        Class<ChalkMarket> face = ChalkMarket.class;
        DUE.holds("the class is public and final", Modifier.isPublic(face.getModifiers()) && Modifier.isFinal(face.getModifiers()));
        Set<String> methods = new TreeSet<>();
        Set<String> publicNames = new TreeSet<>();
        List<String> privateNames = new ArrayList<>();
        for (Method method : face.getDeclaredMethods()) {
            if (Modifier.isPrivate(method.getModifiers())) {
                privateNames.add(method.getName());
            } else {
                DUE.holds(method + " is public and no more", method.getModifiers() == Modifier.PUBLIC);
                methods.add(method.toGenericString().replace("public ", "").replace("ChalkMarket.", ""));
                publicNames.add(method.getName());
            }
        }
        DUE.is("the methods", methods.toString(), new TreeSet<>(Arrays.asList(METHODS)).toString());
        for (String name : privateNames) {
            DUE.holds("1: a private method bears a public one's name: " + name, !publicNames.contains(name));
        }
        Constructor<?>[] constructors = face.getDeclaredConstructors();
        DUE.is("constructors", constructors.length, 1);
        DUE.is("the constructor", constructors[0].toGenericString(), "public ChalkMarket()");
        Set<String> constants = new TreeSet<>();
        for (Field field : face.getDeclaredFields()) {
            if (!Modifier.isPrivate(field.getModifiers())) {
                constants.add(field.getType() + " " + field.getName() + " = " + field.get(null));
            }
        }
        DUE.is("the constants", constants.toString(), new TreeSet<>(Arrays.asList(CONSTANTS)).toString());
    }

    /** Each line of the document's code block stands in the class, in its order, names and all. */
    private static void faceAsTheDocumentHasIt() throws IOException {
        if (!Files.isReadable(DOC)) {
            System.out.println("RulesTest: " + DOC + " is not here: the face is not held against it");
            return;
        }
        String doc = Files.readString(DOC);
        String source = Files.readString(SOURCE);
        int block = doc.indexOf("```java\n") + 8;
        String[] lines = doc.substring(block, doc.indexOf("```", block)).split("\n");
        int at = 0;
        int found = 0;
        for (String line : lines) {
            if (line.contains("public ")) {
                String due = line.endsWith(");") ? line.replace(";", " {") : line;
                int next = source.indexOf("\n" + due + "\n", at);
                DUE.holds("the class has not, or not in its place:" + line, next >= 0);
                at = Math.max(at, next);
                found++;
            }
        }
        DUE.is("lines of the document's face", found, METHODS.length + 4);
        for (String ahead : doc.split("\n")) {
            if (ahead.startsWith("Ahead of the calls `")) {
                String first = ahead.replaceAll("^[^`]*`(\\w+)`.*", "$1");
                String says = ahead.replaceAll(".*says: (.*)\\.$", "$1");
                DUE.holds(says + " stands ahead of " + first,
                    source.matches("(?s).*// " + Pattern.quote(says) + "\n\n    public \\w+ " + first + "\\(.*"));
            }
        }
    }

    private static void insideClasses() {
        List<Class<?>> all = new ArrayList<>(Arrays.asList(ChalkMarket.class.getDeclaredClasses()));
        for (Class<?> inside : all) {
            int modifiers = inside.getModifiers();
            DUE.holds("1: " + inside + " is static and not public", Modifier.isStatic(modifiers) && !Modifier.isPublic(modifiers));
        }
        all.add(ChalkMarket.class);
        DUE.holds("11: at most twelve classes", all.size() <= 12);
        for (Class<?> one : all) {
            int fields = 0;
            for (Field field : one.getDeclaredFields()) {
                boolean fixed = Modifier.isStatic(field.getModifiers());
                DUE.holds("5: static and not final: " + field, !fixed || Modifier.isFinal(field.getModifiers()));
                fields += fixed ? 0 : 1;
            }
            DUE.holds("11: at most twenty fields in " + one, fields <= 20);
            for (Method method : one.getDeclaredMethods()) {
                DUE.holds("1: " + method + " bears a public one's name", one == ChalkMarket.class || !isOfTheFace(method));
                DUE.holds("11: at most seven parameters in " + method, method.getParameterCount() <= 7);
            }
        }
    }

    private static boolean isOfTheFace(Method method) {
        for (Method face : ChalkMarket.class.getMethods()) {
            if (face.getDeclaringClass() == ChalkMarket.class && face.getName().equals(method.getName())) {
                return true;
            }
        }
        return false;
    }

    private static void source() throws IOException {
        String text = Files.readString(SOURCE);
        String code = text.replaceAll("(?s)/\\*.*?\\*/", "").replaceAll("//[^\n]*", "");
        String[] ruledOut = {"\\bimport\\b", "\\bpackage\\b", "->", "::", "\\bthrow\\b", "\\btry\\b", "\\bcatch\\b",
            "\\bfinally\\b", "\\bsynchronized\\b", "\\bassert\\b", "\\bdouble\\b", "\\bfloat\\b", "Exact\\(", "\\bSystem\\b",
            "\\bRandom\\b", "\\bThread\\b", "\\bwhile\\b", "static \\{", "@", "\\bvar\\b", "\\bprotected\\b",
            "\\bnull\\b", "\\bnew [A-Z]\\w*\\["};
        for (String pattern : ruledOut) {
            DUE.holds("the source has " + pattern, !Pattern.compile(pattern).matcher(code).find());
        }
        for (int i = 0; i < text.length(); i++) {
            DUE.holds("sign " + (int) text.charAt(i) + " in the source", text.charAt(i) == '\n' || text.charAt(i) >= 32 && text.charAt(i) < 127);
        }
        int start = -1;
        String[] lines = text.split("\n");
        for (int i = 0; i < lines.length; i++) {
            DUE.holds("line " + (i + 1) + " is longer than 100", lines[i].length() <= 100);
            if (lines[i].matches(" {4,8}\\w[^=;]*\\) \\{")) {
                start = i;
            }
            if (start >= 0 && lines[i].matches(" {4,8}\\}")) {
                DUE.holds("11: the method at line " + (start + 1) + " is longer than 60", i - start <= 60);
                start = -1;
            }
        }
    }

    /** The room that all calls live in is small: only the constructor may make objects. */
    private static void noCallMakesObjects() {
        ChalkMarket[] markets = new ChalkMarket[15];
        for (int i = 0; i < markets.length; i++) {
            markets[i] = new ChalkMarket();
        }
        useEach(markets, 0, 10);
        com.sun.management.ThreadMXBean threads = (com.sun.management.ThreadMXBean) ManagementFactory.getThreadMXBean();
        threads.getCurrentThreadAllocatedBytes();
        long before = threads.getCurrentThreadAllocatedBytes();
        useEach(markets, 10, 15);
        long after = threads.getCurrentThreadAllocatedBytes();
        // The reading itself may take a few bytes; any one object of the class would take 16 a call.
        DUE.holds("12: calls made objects of " + (after - before) + " bytes", after - before < 100 * 16);
    }

    /** An object is asked 500 times: five of them see all turns. */
    private static void useEach(ChalkMarket[] markets, int from, int to) {
        for (int i = from; i < to; i++) {
            useAll(markets[i], i % 5 * 20, i % 5 * 20 + 20);
        }
    }

    private static void useAll(ChalkMarket market, int from, int to) {
        for (int turn = from; turn < to; turn++) {
            market.one(turn % 8, turn % 7, turn % 10, turn);
            market.cart(turn % 4, turn % 10);
            market.day(turn % 7);
            market.wipe();
            market.say('.');
            market.fault();
            market.judge(turn % 2);
            market.behind(turn % 8, turn % 3);
            market.comes(turn % 4);
            market.then(turn % 7);
            market.done();
            market.chalk(turn % 7);
            market.sway(turn % 7);
            market.needed(314159265, 9, 20, turn % 9, turn % 2);
            market.trade(314159265, 9, turn % 10, turn % 2);
            market.seen(turn % 10, 3, turn % 3);
            market.slates(turn % 40 - 1);
            market.ask(turn % 2);
            market.forget();
            market.cakes(turn, 99 - turn, turn % 2);
            market.rung(turn % 13, 7, turn % 7, turn % 2, turn % 2);
            market.year(turn, 99, turn % 3);
            market.image(turn % 2);
            market.restore(turn % 2);
            market.told(turn);
        }
    }
}

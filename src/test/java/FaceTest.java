import java.io.IOException;
import java.lang.reflect.Constructor;
import java.lang.reflect.Field;
import java.lang.reflect.Method;
import java.lang.reflect.Modifier;
import java.nio.file.Files;
import java.nio.file.Path;
import java.util.Arrays;
import java.util.Set;
import java.util.TreeSet;

/** The document's public face, and what of LANGUAGE.md can be seen without reading the code. */
public final class FaceTest {
    private static final String[] FACE = {
        "int feed(int,int,int,int,int)", "int book(int)", "int fault()", "int where()",
        "int shows(int,int)", "int whose(int,int)", "int was(int,int,int)", "int scraped(int,int,int)", "int deep(int,int)",
        "int relief(int,int)", "int light(int,int)", "int area(int)", "int share(int)", "int old(int)", "int changes(int,int)",
        "int work(int,int)", "int paint(int,int,int)", "int judged(int)", "int breaks(int)", "int forged()", "int left(int)",
        "int before(int,int)", "int untold()", "long orders()", "int placed(int,boolean)", "long ahead(int,int)",
        "int wanted(int,int)", "int alike()", "int best(int,int)", "int need(int)", "int step(int,int)", "int reach(int)",
        "int least(int,int)", "int freed(int,int)",
        "boolean begin(int,int)", "boolean patch(int,int,int,int,int)", "int dry()", "boolean wipe()", "int wet(int,int)",
        "int wetJudged()", "boolean scrape(int,int)", "int thief(int)", "boolean undo()", "int image()", "boolean back(int)",
        "int led(int)", "int size(int)", "int trouble()",
    };
    private static final String[] NOT_IN_THE_LANGUAGE = {
        "->", "::", "try ", "catch", "synchronized", "assert ", "instanceof", "Exact(", "package ", "double", "float", "Object",
    };

    private final Check check = new Check();

    public static void main(String[] args) throws IOException {
        FaceTest test = new FaceTest();
        test.face();
        test.classesInside();
        test.source();
        test.check.end("FaceTest");
    }

    private void face() {
        Class<?> face = PaintedOver.class;
        check.due("public and final", face.getModifiers(), Modifier.PUBLIC | Modifier.FINAL);
        Set<String> found = new TreeSet<>();
        for (Method m : face.getDeclaredMethods()) {
            if (!Modifier.isPrivate(m.getModifiers())) {
                String types = Arrays.toString(m.getParameterTypes()).replaceAll("[\\[\\] ]", "");
                found.add(m.getReturnType() + " " + m.getName() + "(" + types + ")");
                check.due(m + " is public", m.getModifiers(), Modifier.PUBLIC);
            }
        }
        check.due("the face is " + found, found.equals(new TreeSet<>(Arrays.asList(FACE))), true);
        for (Field f : face.getDeclaredFields()) {
            check.due(f + " is private", Modifier.isPrivate(f.getModifiers()), !f.getName().equals("NONE"));
        }
        Constructor<?>[] made = face.getDeclaredConstructors();
        check.due("constructors", made.length, 1);
        check.due("its constructor's arguments", made[0].getParameterCount(), 0);
    }

    private void classesInside() {
        Set<String> names = new TreeSet<>();
        for (String method : FACE) {
            names.add(method.replaceAll("\\(.*|.* ", "").trim());
            names.add(method.replaceAll("^[a-z]+ |\\(.*", ""));
        }
        Class<?>[] inside = PaintedOver.class.getDeclaredClasses();
        check.due("some twelve classes", inside.length < 12, true);
        for (Class<?> c : inside) {
            check.due(c + " is private and static", Modifier.isPrivate(c.getModifiers()) && Modifier.isStatic(c.getModifiers()), true);
            for (Method m : c.getDeclaredMethods()) {
                check.due(m + " bears a public name", names.contains(m.getName()), false);
            }
            for (Field f : c.getDeclaredFields()) {
                check.due(f + " is static and changes", Modifier.isStatic(f.getModifiers()) && !Modifier.isFinal(f.getModifiers()), false);
            }
        }
        for (Method m : PaintedOver.class.getDeclaredMethods()) {
            boolean hidden = Modifier.isPrivate(m.getModifiers());
            check.due(m + " bears a public name", hidden && names.contains(m.getName()), false);
        }
    }

    private void source() throws IOException {
        String source = Files.readString(Path.of("src/main/java/PaintedOver.java"));
        String code = source.replaceAll("(?s)/\\*.*?\\*/", "");
        for (String other : NOT_IN_THE_LANGUAGE) {
            check.due("the source has " + other, code.contains(other), false);
        }
        check.due("imports", code.split("\nimport ", -1).length + (code.startsWith("import ") ? 1 : 0), 3);
    }
}

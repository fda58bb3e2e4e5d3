import java.io.IOException;
import java.lang.reflect.Constructor;
import java.lang.reflect.Field;
import java.lang.reflect.Method;
import java.lang.reflect.Modifier;
import java.nio.file.Files;
import java.nio.file.Path;
import java.util.Arrays;
import java.util.Set;
import java.util.TreeSet;
import java.util.regex.Matcher;
import java.util.regex.Pattern;

/** The public face as the document tells it, that nothing else can be seen, and that each promise is named by a test. */
public final class FaceTest {
    private static int wrong = 0;

    public static void main(String[] args) throws IOException {
        face(Files.readString(Path.of("../shared/DOC.md")));
        hidden();
        promisesAreTested(Files.readString(Path.of("../shared/DOC.md")));
        System.out.println("the face: " + wrong + " faults");
        if (wrong != 0) {
            System.exit(1);
        }
    }

    private static void need(boolean holds, String what) {
        if (!holds) {
            wrong++;
            System.out.println(what);
        }
    }

    private static void face(String document) {
        String block = document.substring(document.indexOf("```java"), document.indexOf("## Terms"));
        Set<String> due = new TreeSet<>();
        Matcher m = Pattern.compile("public (int|long) (\\w+)\\(([^)]*)\\);").matcher(block);
        while (m.find()) {
            due.add(m.group(1) + " " + m.group(2) + m.group(3).replaceAll(" \\w+(,|$)", "$1"));
        }
        Set<String> there = new TreeSet<>();
        for (Method method : RindTalk.class.getDeclaredMethods()) {
            if (Modifier.isPublic(method.getModifiers())) {
                StringBuilder types = new StringBuilder();
                for (Class<?> type : method.getParameterTypes()) {
                    types.append(types.length() == 0 ? "" : ", ").append(type.getName());
                }
                there.add(method.getReturnType().getName() + " " + method.getName() + types);
            }
        }
        need(due.size() == 33, "the document's face was not read: " + due);
        need(due.equals(there), "the face is " + there + ", due is " + due);
        Set<String> constants = new TreeSet<>();
        for (Field field : RindTalk.class.getFields()) {
            constants.add(field.getName());
        }
        need(constants.equals(new TreeSet<>(Arrays.asList("UNKNOWN", "OUTSIDE", "STATE", "FULL", "NONE", "LOST"))), "the constants are " + constants);
        need(Modifier.isFinal(RindTalk.class.getModifiers()), "the class is not final");
    }

    private static void hidden() {
        Set<String> open = new TreeSet<>();
        for (Method method : RindTalk.class.getDeclaredMethods()) {
            if (Modifier.isPublic(method.getModifiers())) {
                open.add(method.getName());
            }
        }
        for (Method method : RindTalk.class.getDeclaredMethods()) {
            boolean isOpen = Modifier.isPublic(method.getModifiers());
            need(isOpen || Modifier.isPrivate(method.getModifiers()), method + " is neither public nor private");
            need(isOpen || !open.contains(method.getName()), method + " bears the name of a public one");
        }
        for (Field field : RindTalk.class.getDeclaredFields()) {
            boolean isOpen = Modifier.isPublic(field.getModifiers());
            need(isOpen || Modifier.isPrivate(field.getModifiers()), field + " is neither public nor private");
            need(!Modifier.isStatic(field.getModifiers()) || Modifier.isFinal(field.getModifiers()), field + " is static and not final");
        }
        Constructor<?>[] makers = RindTalk.class.getDeclaredConstructors();
        need(makers.length == 1 && makers[0].getParameterCount() == 0, "there is not just the one constructor");
        for (Class<?> inside : RindTalk.class.getDeclaredClasses()) {
            need(Modifier.isStatic(inside.getModifiers()), inside + " is not static");
            for (Method method : inside.getDeclaredMethods()) {
                need(!open.contains(method.getName()), method + " bears the name of a public one");
            }
        }
    }

    /** Each promise of the document is named by answers of the tests of its edges. */
    private static void promisesAreTested(String document) throws IOException {
        StringBuilder tests = new StringBuilder();
        for (String part : new String[] {"Text", "Hearing", "Cutting", "Reading", "Sheet"}) {
            tests.append(Files.readString(Path.of("src/test/java/" + part + "EdgesTest.java")));
        }
        Matcher promises = Pattern.compile("## Promise (\\d+):").matcher(document);
        int found = 0;
        while (promises.find()) {
            found++;
            need(tests.indexOf("\"promise " + promises.group(1) + ", ") >= 0, "no test of edges names promise " + promises.group(1));
        }
        need(found == 34, "the document's promises were not read: " + found);
    }
}

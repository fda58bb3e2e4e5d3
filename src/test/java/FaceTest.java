import java.io.IOException;
import java.lang.reflect.Constructor;
import java.lang.reflect.Field;
import java.lang.reflect.Method;
import java.lang.reflect.Modifier;
import java.nio.file.Files;
import java.nio.file.Path;
import java.util.Arrays;
import java.util.Set;
import java.util.TreeSet;
import java.util.regex.Matcher;
import java.util.regex.Pattern;

/** The public face as the document tells it, and those rules of the language that a plain look can find broken. */
public final class FaceTest {
    private static int wrong = 0;

    public static void main(String[] args) throws IOException {
        face(Files.readString(Path.of("../shared/DOC.md")));
        hidden();
        source(Files.readString(Path.of("src/main/java/RindTalk.java")));
        promisesAreTested(Files.readString(Path.of("../shared/DOC.md")));
        System.out.println("the face and the language: " + wrong + " faults");
        if (wrong != 0) {
            System.exit(1);
        }
    }

    private static void need(boolean holds, String what) {
        if (!holds) {
            wrong++;
            System.out.println(what);
        }
    }

    private static void face(String document) {
        String block = document.substring(document.indexOf("```java"), document.indexOf("## Terms"));
        Set<String> due = new TreeSet<>();
        Matcher m = Pattern.compile("public (int|long) (\\w+)\\(([^)]*)\\);").matcher(block);
        while (m.find()) {
            due.add(m.group(1) + " " + m.group(2) + m.group(3).replaceAll(" \\w+(,|$)", "$1"));
        }
        Set<String> there = new TreeSet<>();
        for (Method method : RindTalk.class.getDeclaredMethods()) {
            if (Modifier.isPublic(method.getModifiers())) {
                StringBuilder types = new StringBuilder();
                for (Class<?> type : method.getParameterTypes()) {
                    types.append(types.length() == 0 ? "" : ", ").append(type.getName());
                }
                there.add(method.getReturnType().getName() + " " + method.getName() + types);
            }
        }
        need(due.size() == 33, "the document's face was not read: " + due);
        need(due.equals(there), "the face is " + there + ", due is " + due);
        Set<String> constants = new TreeSet<>();
        for (Field field : RindTalk.class.getFields()) {
            constants.add(field.getName());
        }
        need(constants.equals(new TreeSet<>(Arrays.asList("UNKNOWN", "OUTSIDE", "STATE", "FULL", "NONE", "LOST"))), "the constants are " + constants);
        need(Modifier.isFinal(RindTalk.class.getModifiers()), "the class is not final");
    }

    private static void hidden() {
        Set<String> open = new TreeSet<>();
        for (Method method : RindTalk.class.getDeclaredMethods()) {
            if (Modifier.isPublic(method.getModifiers())) {
                open.add(method.getName());
            }
        }
        for (Method method : RindTalk.class.getDeclaredMethods()) {
            boolean isOpen = Modifier.isPublic(method.getModifiers());
            need(isOpen || Modifier.isPrivate(method.getModifiers()), method + " is neither public nor private");
            need(isOpen || !open.contains(method.getName()), method + " bears the name of a public one");
        }
        for (Field field : RindTalk.class.getDeclaredFields()) {
            boolean isOpen = Modifier.isPublic(field.getModifiers());
            need(isOpen || Modifier.isPrivate(field.getModifiers()), field + " is neither public nor private");
            need(!Modifier.isStatic(field.getModifiers()) || Modifier.isFinal(field.getModifiers()), field + " is static and not final");
        }
        Constructor<?>[] makers = RindTalk.class.getDeclaredConstructors();
        need(makers.length == 1 && makers[0].getParameterCount() == 0, "there is not just the one constructor");
        for (Class<?> inside : RindTalk.class.getDeclaredClasses()) {
            need(Modifier.isStatic(inside.getModifiers()), inside + " is not static");
            for (Method method : inside.getDeclaredMethods()) {
                need(!open.contains(method.getName()), method + " bears the name of a public one");
            }
        }
        need(RindTalk.class.getDeclaredClasses().length <= 12, "too many classes inside");
        fieldsAreFew(RindTalk.class);
        for (Class<?> inside : RindTalk.class.getDeclaredClasses()) {
            fieldsAreFew(inside);
        }
    }

    private static void fieldsAreFew(Class<?> type) {
        int fields = 0;
        for (Field field : type.getDeclaredFields()) {
            fields += Modifier.isStatic(field.getModifiers()) ? 0 : 1;
        }
        need(fields <= 20, type + " has " + fields + " fields");
    }

    private static void source(String text) {
        String code = text.replaceAll("(?s)/\\*.*?\\*/", "").replaceAll("//[^\n]*", "");
        for (String word : new String[] {"throw", "throws", "try", "catch", "finally", "synchronized", "assert", "package", "protected",
                "Object", "Exception", "Error", "Random", "Thread", "hashCode", "toString", "System.out", "nanoTime", "currentTimeMillis"}) {
            need(!Pattern.compile("\\b" + Pattern.quote(word) + "\\b").matcher(code).find(), "the word " + word + " stands in the class");
        }
        need(!code.contains("->") && !code.contains("::"), "a lambda or a method reference stands in the class");
        need(!Pattern.compile("\\w+Exact\\b").matcher(code).find(), "a function whose name ends in Exact");
        Matcher imports = Pattern.compile("import ([^;]+);").matcher(code);
        while (imports.find()) {
            need(imports.group(1).equals("java.util.Arrays"), "the import " + imports.group(1));
        }
        need(text.chars().allMatch(c -> c == '\n' || (c >= 32 && c < 127)), "a sign beyond the plain ones stands in the class");
        methodsStayShort(code);
    }

    /** Each promise of the document is named by answers of the tests of its edges. */
    private static void promisesAreTested(String document) throws IOException {
        StringBuilder tests = new StringBuilder();
        for (String part : new String[] {"Text", "Hearing", "Cutting", "Reading", "Sheet"}) {
            tests.append(Files.readString(Path.of("src/test/java/" + part + "EdgesTest.java")));
        }
        Matcher promises = Pattern.compile("## Promise (\\d+):").matcher(document);
        int found = 0;
        while (promises.find()) {
            found++;
            need(tests.indexOf("\"promise " + promises.group(1) + ", ") >= 0, "no test of edges names promise " + promises.group(1));
        }
        need(found == 34, "the document's promises were not read: " + found);
    }

    private static void methodsStayShort(String code) {
        int lines = 0;
        String name = "";
        for (String line : code.split("\n")) {
            lines++;
            if (line.matches(" {4}(?: {4})?[\\w\\[\\]].*\\) \\{")) {
                lines = 0;
                name = line.trim();
                need(line.chars().filter(c -> c == ',').count() < 7, "too many parameters: " + name);
            }
            if (line.matches(" {4}(?: {4})?\\}")) {
                need(lines <= 60 || name.isEmpty(), name + " has " + lines + " lines");
                name = "";
            }
        }
    }
}

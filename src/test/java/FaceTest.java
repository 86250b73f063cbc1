import java.io.IOException;
import java.lang.reflect.Constructor;
import java.lang.reflect.Field;
import java.lang.reflect.Member;
import java.lang.reflect.Method;
import java.lang.reflect.Modifier;
import java.nio.file.Files;
import java.nio.file.Path;
import java.util.ArrayList;
import java.util.Arrays;
import java.util.List;
import java.util.Set;
import java.util.TreeSet;
import java.util.regex.Matcher;
import java.util.regex.Pattern;
import java.util.stream.Collectors;

/** The face is the document's, and the source keeps to those rules of LANGUAGE.md that can be seen by a search. */
public final class FaceTest {
    private static final Path SOURCE = Path.of("src/main/java/ClinchClock.java");
    private static final Path DOCUMENT = Path.of("../shared/DOC.md");
    private static final String[] BARRED = {"\\bthrow\\b", "\\btry\\b", "\\bcatch\\b", "\\bsynchronized\\b",
        "\\bassert\\b", "\\bimport\\b", "\\bpackage\\b", "->", "::", "\\bInteger\\.M", "\\bdouble\\b", "\\bfloat\\b",
        "\\bprotected\\b", "\\bvar\\b", "@", "Exact\\("};

    private static int wrong = 0;

    private static void check(boolean fine, String what) {
        if (!fine) {
            wrong++;
            System.out.println(what);
        }
    }

    public static void main(String[] args) throws IOException {
        faceIsTheDocuments();
        membersAreHidden();
        sourceKeepsTheRules(Files.readString(SOURCE));
        System.out.println(wrong == 0 ? "the face is the document's" : wrong + " rules are broken");
        if (wrong != 0) {
            System.exit(1);
        }
    }

    private static void faceIsTheDocuments() throws IOException {
        Set<String> due = new TreeSet<>();
        Matcher m = Pattern.compile("    public (int|boolean) (\\w+)\\((.*)\\);").matcher(Files.readString(DOCUMENT));
        while (m.find()) {
            int parameters = m.group(3).isEmpty() ? 0 : m.group(3).split(",").length;
            due.add(m.group(1) + " " + m.group(2) + " " + parameters);
        }
        Set<String> got = new TreeSet<>();
        for (Method method : ClinchClock.class.getDeclaredMethods()) {
            if (Modifier.isPublic(method.getModifiers())) {
                got.add(method.getReturnType() + " " + method.getName() + " " + method.getParameterCount());
            }
        }
        check(due.size() == 59, "the document has " + due.size() + " methods");
        check(got.equals(due), "the face is " + got + ", due is " + due);
        check(Modifier.isFinal(ClinchClock.class.getModifiers()), "the class is not final");
        check(ClinchClock.NONE == -1, "NONE is not -1");
    }

    private static void membersAreHidden() {
        List<Member> members = new ArrayList<>();
        members.addAll(Arrays.asList(ClinchClock.class.getDeclaredFields()));
        for (Method method : ClinchClock.class.getDeclaredMethods()) {
            members.add(method);
        }
        for (Member member : members) {
            boolean shown = Modifier.isPublic(member.getModifiers()) || Modifier.isPrivate(member.getModifiers());
            check(shown || member.isSynthetic(), member.getName() + " is neither public nor private");
        }
        for (Constructor<?> constructor : ClinchClock.class.getDeclaredConstructors()) {
            check(constructor.getParameterCount() == 0, "a constructor more");
        }
        Set<String> face = Arrays.stream(ClinchClock.class.getDeclaredMethods())
            .filter(m -> Modifier.isPublic(m.getModifiers())).map(Method::getName).collect(Collectors.toSet());
        check(ClinchClock.class.getDeclaredClasses().length <= 12, "more than twelve classes");
        List<Class<?>> classes = new ArrayList<>(Arrays.asList(ClinchClock.class.getDeclaredClasses()));
        for (Class<?> inside : classes) {
            check(Modifier.isStatic(inside.getModifiers()), inside + " is not static");
            for (Method method : inside.getDeclaredMethods()) {
                check(!face.contains(method.getName()), inside + " has a method of the face: " + method.getName());
            }
        }
        classes.add(ClinchClock.class);
        for (Class<?> each : classes) {
            fieldsAreFew(each);
            for (Method method : each.getDeclaredMethods()) {
                boolean hidden = !Modifier.isPublic(method.getModifiers());
                check(!hidden || !face.contains(method.getName()), "hidden twin: " + method.getName());
                check(method.getParameterCount() <= 7, "many parameters: " + method.getName());
            }
        }
    }

    private static void fieldsAreFew(Class<?> each) {
        int fields = 0;
        for (Field field : each.getDeclaredFields()) {
            boolean isStatic = Modifier.isStatic(field.getModifiers());
            check(!isStatic || Modifier.isFinal(field.getModifiers()), "static, not final: " + field);
            fields += isStatic ? 0 : 1;
        }
        check(fields <= 20, each + " has " + fields + " fields");
    }

    private static void sourceKeepsTheRules(String source) {
        String code = source.replaceAll("(?s)/\\*.*?\\*/", "").replaceAll("//[^\n]*", "").replaceAll("\"[^\"\n]*\"", "\"\"");
        for (String barred : BARRED) {
            check(!Pattern.compile(barred).matcher(code).find(), "the source has " + barred);
        }
        check(!Pattern.compile("[^\\x00-\\x7f]").matcher(source).find(), "a sign beyond 127");
        int start = 0;
        String[] lines = source.split("\n");
        for (int i = 0; i < lines.length; i++) {
            if (lines[i].matches("( {4}| {8})[a-z].*\\) \\{")) {
                start = i;
            }
            if (lines[i].matches("( {4}| {8})\\}")) {
                check(i - start < 60, "a long method at line " + start);
            }
        }
    }
}

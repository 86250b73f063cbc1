import java.io.IOException;
import java.lang.reflect.Constructor;
import java.lang.reflect.Field;
import java.lang.reflect.Member;
import java.lang.reflect.Method;
import java.lang.reflect.Modifier;
import java.nio.file.Files;
import java.nio.file.Path;
import java.util.ArrayList;
import java.util.Arrays;
import java.util.List;
import java.util.Set;
import java.util.TreeSet;
import java.util.regex.Matcher;
import java.util.regex.Pattern;

/** The face is the document's, and nothing else of the class can be seen from outside. */
public final class FaceTest {
    private static final Path DOCUMENT = Path.of("../shared/DOC.md");
    private static final int METHODS = 59;

    private static int wrong = 0;

    private FaceTest() {
    }

    private static void check(boolean fine, String what) {
        if (!fine) {
            wrong++;
            System.out.println(what);
        }
    }

    public static void main(String[] args) throws IOException {
        Set<String> due = methodsOfTheDocument(Files.readString(DOCUMENT));
        Set<String> got = methodsOfTheClass();
        check(due.size() == METHODS, "the document has " + due.size() + " methods");
        check(got.equals(due), "the face is " + got + ", due is " + due);
        check(Modifier.isFinal(ClinchClock.class.getModifiers()), "the class is not final");
        constructorsAreOne();
        constantsAreOne();
        othersAreHidden();
        System.out.println(wrong == 0 ? "the face is the document's" : wrong + " faults of the face");
        if (wrong != 0) {
            System.exit(1);
        }
    }

    private static Set<String> methodsOfTheDocument(String document) {
        Set<String> due = new TreeSet<>();
        Matcher m = Pattern.compile("    public (int|boolean) (\\w+)\\((.*)\\);").matcher(document);
        while (m.find()) {
            List<String> types = new ArrayList<>();
            for (String parameter : m.group(3).isEmpty() ? new String[0] : m.group(3).split(", ")) {
                types.add(parameter.split(" ")[0]);
            }
            due.add(m.group(1) + " " + m.group(2) + types);
        }
        return due;
    }

    private static Set<String> methodsOfTheClass() {
        Set<String> got = new TreeSet<>();
        for (Method method : ClinchClock.class.getDeclaredMethods()) {
            if (Modifier.isPublic(method.getModifiers())) {
                check(!Modifier.isStatic(method.getModifiers()), method.getName() + " is static");
                check(method.getExceptionTypes().length == 0, method.getName() + " tells of exceptions");
                got.add(method.getReturnType() + " " + method.getName() + Arrays.toString(method.getParameterTypes()));
            }
        }
        return got;
    }

    private static void constructorsAreOne() {
        Constructor<?>[] constructors = ClinchClock.class.getDeclaredConstructors();
        check(constructors.length == 1, constructors.length + " constructors");
        check(constructors[0].getParameterCount() == 0, "the constructor takes something");
        check(Modifier.isPublic(constructors[0].getModifiers()), "the constructor is not public");
    }

    private static void constantsAreOne() {
        List<String> shown = new ArrayList<>();
        for (Field field : ClinchClock.class.getFields()) {
            shown.add(field.toString());
        }
        check(shown.equals(List.of("public static final int ClinchClock.NONE")), "the constants are " + shown);
        check(ClinchClock.NONE == -1, "NONE is not -1");
    }

    private static void othersAreHidden() {
        List<Member> members = new ArrayList<>(Arrays.asList(ClinchClock.class.getDeclaredFields()));
        members.addAll(Arrays.asList(ClinchClock.class.getDeclaredMethods()));
        for (Member member : members) {
            boolean fine = Modifier.isPublic(member.getModifiers()) || Modifier.isPrivate(member.getModifiers());
            check(fine || member.isSynthetic(), member.getName() + " is neither public nor private");
        }
    }
}

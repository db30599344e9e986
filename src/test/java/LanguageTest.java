import java.io.IOException;
import java.lang.reflect.Constructor;
import java.lang.reflect.Field;
import java.lang.reflect.Member;
import java.lang.reflect.Method;
import java.lang.reflect.Modifier;
import java.nio.file.Files;
import java.nio.file.Path;
import java.util.Arrays;
import java.util.HashSet;
import java.util.List;
import java.util.Set;
import java.util.TreeSet;
import java.util.regex.Matcher;
import java.util.regex.Pattern;
import java.util.stream.Collectors;

/** The document's face and what of ../shared/LANGUAGE.md can be seen in the source and the compiled classes. */
public final class LanguageTest {
    private static final Check CHECK = new Check("LanguageTest");
    private static final String SOURCE = "src/main/java/StackYard.java";
    private static final String[] FACE = {
        "int kind(int,int,int,int,boolean)", "int product(int,int)", "boolean layer(int,int)",
        "int row(int,int,int,int)", "boolean less(int,int)", "int put(int,int,int,int,int)",
        "int face(int,int,int,int,int)", "int there(int,int,int,int)", "int at(int,int,int,int)",
        "int turnAt(int,int,int,int)", "boolean share(int,int)", "boolean keep(int,int)", "boolean back(int,int)",
        "boolean forget(int)", "int same(int,int,int,int,int)", "int made(int)", "boolean box(int)",
        "int fill(int,int,int)", "int replace(int,int,int)", "int count(int,int)", "int hollow(int)",
        "int move(int,int,int,boolean)", "int turnBox(int,int)", "int cut(int,int,int,int,int)", "int parts(int)",
        "int part(int,int,int,int)", "int partOf(int,int,int)", "int settle(int)",
        "int fallen(int,int) throws IndexOutOfBoundsException", "int load(int,int,int,int)", "int overloaded(int)",
        "int light(int,int,int,int)", "int dark(int,int)", "int faces(int)", "int path(int,int,int)",
        "int places(int,int)", "int place(int,int,int)", "int differs(int,int)",
    };
    private static final String[] RULED_OUT = {
        "->", "::", "\\bimport\\b", "\\bpackage\\b", "\\bfinally\\b", "\\bsynchronized\\b", "\\bassert\\b",
        "\\bSystem\\.(?!arraycopy)", "\\bThread\\b", "\\bRandom\\b", "\\bcatch\\b", "\\binstanceof\\b",
        "\\bprotected\\b", "\\bequals\\b", "\\bhashCode\\b", "\\btoString\\b", "Exact\\b", "\\bwhile \\(true",
        "\\bdouble\\b", "\\bfloat\\b", "\\bvar\\b", "\\bstatic \\{", "\\bnative\\b", "\\btransient\\b",
    };

    public static void main(String[] args) throws IOException {
        String source = Files.readString(Path.of(SOURCE));
        face();
        for (Class<?> inside : StackYard.class.getDeclaredClasses()) {
            inside(inside);
        }
        CHECK.due("rule 11: some twelve classes", 1 + StackYard.class.getDeclaredClasses().length <= 12, true);
        words(source);
        throwsOnce(source);
        methodLengths(source);
        CHECK.end();
    }

    private static String signature(Method method) {
        String parameters = Arrays.stream(method.getParameterTypes()).map(Class::getSimpleName)
                .collect(Collectors.joining(","));
        String thrown = Arrays.stream(method.getExceptionTypes()).map(Class::getSimpleName)
                .collect(Collectors.joining(","));
        return method.getReturnType().getSimpleName() + " " + method.getName() + "(" + parameters + ")"
                + (thrown.isEmpty() ? "" : " throws " + thrown);
    }

    private static void face() {
        Class<?> type = StackYard.class;
        CHECK.due("rule 1: public and final", type.getModifiers(), Modifier.PUBLIC | Modifier.FINAL);
        Set<String> found = new TreeSet<>();
        Set<String> publicNames = new HashSet<>();
        Set<String> privateNames = new HashSet<>();
        for (Method method : type.getDeclaredMethods()) {
            if (Modifier.isPrivate(method.getModifiers())) {
                privateNames.add(method.getName());
            } else {
                CHECK.due("rule 1: " + method + " is public alone", method.getModifiers(), Modifier.PUBLIC);
                found.add(signature(method));
                publicNames.add(method.getName());
            }
            CHECK.due("rule 11: parameters of " + method, method.getParameterCount() <= 7, true);
        }
        Set<String> due = new TreeSet<>(List.of(FACE));
        if (!found.equals(due)) {
            System.out.println("found: " + found);
        }
        CHECK.due("the face's methods", found.equals(due), true);
        privateNames.retainAll(publicNames);
        CHECK.due("rule 1: no private method bears a public one's name", privateNames.size(), 0);
        Constructor<?>[] constructors = type.getDeclaredConstructors();
        CHECK.due("one constructor", constructors.length, 1);
        CHECK.due("it is public", constructors[0].getModifiers(), Modifier.PUBLIC);
        CHECK.due("it takes nothing", constructors[0].getParameterCount(), 0);
        int constants = 0;
        for (Field field : type.getDeclaredFields()) {
            if (!Modifier.isPrivate(field.getModifiers())) {
                constants++;
                CHECK.due("NONE is the one constant", field.getName().equals("NONE"), true);
                CHECK.due("a constant", field.getModifiers(), Modifier.PUBLIC | Modifier.STATIC | Modifier.FINAL);
            }
        }
        CHECK.due("one constant", constants, 1);
        fields(type);
    }

    private static void inside(Class<?> type) {
        CHECK.due("rule 1: " + type + " is static", Modifier.isStatic(type.getModifiers()), true);
        CHECK.due("rule 1: " + type + " is not public", Modifier.isPublic(type.getModifiers()), false);
        CHECK.due("no classes inside " + type, type.getDeclaredClasses().length, 0);
        for (Method method : type.getDeclaredMethods()) {
            hidden(method);
            CHECK.due("rule 11: parameters of " + method, method.getParameterCount() <= 7, true);
        }
        for (Constructor<?> constructor : type.getDeclaredConstructors()) {
            hidden(constructor);
        }
        fields(type);
    }

    private static void hidden(Member member) {
        int shown = member.getModifiers() & (Modifier.PUBLIC | Modifier.PROTECTED);
        CHECK.due(member + " is not shown", shown, 0);
    }

    private static void fields(Class<?> type) {
        int own = 0;
        for (Field field : type.getDeclaredFields()) {
            if (Modifier.isStatic(field.getModifiers())) {
                CHECK.due("rule 5: " + field + " is final", Modifier.isFinal(field.getModifiers()), true);
            } else {
                own++;
            }
        }
        CHECK.due("rule 11: fields of " + type, own <= 20, true);
    }

    private static void words(String source) {
        for (String word : RULED_OUT) {
            Matcher matcher = Pattern.compile(word).matcher(source);
            CHECK.due("no " + word + " in the source", matcher.find(), false);
        }
        for (int i = 0; i < source.length(); i++) {
            char c = source.charAt(i);
            if (c != '\n' && (c < 32 || c > 126)) {
                CHECK.due("a plain sign at " + i, c, ' ');
            }
        }
    }

    private static void throwsOnce(String source) {
        Matcher matcher = Pattern.compile("\\bthrow (new \\w+\\(\\))").matcher(source);
        CHECK.due("rule 6: one throw", matcher.results().count(), 1);
        matcher.reset();
        matcher.find();
        CHECK.due("rule 6: fallen()'s", matcher.group(1).equals("new IndexOutOfBoundsException()"), true);
    }

    private static void methodLengths(String source) {
        String[] lines = source.split("\n");
        int start = -1;
        for (int i = 0; i < lines.length; i++) {
            if (lines[i].matches("( {4}| {8})[\\w<>\\[\\] ]+\\(.*\\{") && !lines[i].contains(" new ")) {
                start = i;
            } else if (lines[i].matches("( {4}| {8})\\}") && start >= 0) {
                CHECK.due("rule 11: lines of " + lines[start].trim(), i - start + 1 <= 60, true);
                start = -1;
            }
            CHECK.due("line " + (i + 1) + " is no longer than 120", lines[i].length() <= 120, true);
        }
    }
}

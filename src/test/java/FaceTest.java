import java.io.IOException;
import java.lang.reflect.Constructor;
import java.lang.reflect.Field;
import java.lang.reflect.Method;
import java.lang.reflect.Modifier;
import java.nio.file.Files;
import java.nio.file.Path;
import java.util.Arrays;
import java.util.HashSet;
import java.util.Set;
import java.util.TreeSet;

/** The public face is the document's, whole, and nothing else can be seen of the class. */
public final class FaceTest {
    private static final String[] FACE = {
        "int thing(int,int,int)", "int step(int,int)", "int set(int,int,int,int)", "int show(int,int)",
        "int sort(int,int,int,int)", "int change(int,int,int)", "int say(int)", "int wipe()", "int fault()",
        "int list(int)", "int item(int,int,int)", "int law(int)", "long thinks(int,int)", "int goes(int)",
        "int buys(int,int,int)", "long saves(int)", "long left(int)", "int row(int)", "int best(int)",
        "long most(int,int)", "int climb(int)", "int lures(int)", "long brings(int,int)", "int only(int)",
        "int rest(int)", "int ring(int,int)", "int heads(int,int)", "int shown(int,int)", "int hurt()",
        "long home(int,int,int,int,int,int)", "int slip(int)", "int burn()", "int with(int,int)",
        "long chance(int,int,int)", "int edge(int,int)", "int image(int)", "int restore(int)", "int told(int)"};

    private static final Path DOCUMENT = Path.of("../shared/DOC.md");
    private static final Path SOURCE = Path.of("src/main/java/SugarBelow.java");

    public static void main(String[] args) throws IOException {
        Due due = new Due();
        Set<String> seen = new TreeSet<>();
        Set<String> publicNames = new HashSet<>();
        for (Method method : SugarBelow.class.getDeclaredMethods()) {
            if (!Modifier.isPrivate(method.getModifiers())) {
                due.is(method + " public", Modifier.isPublic(method.getModifiers()) ? 1 : 0, 1);
                seen.add(told(method));
                publicNames.add(method.getName());
            }
        }
        due.is("face: seen " + seen, seen.equals(new TreeSet<>(Arrays.asList(FACE))) ? 1 : 0, 1);
        privateNames(due, publicNames);
        fields(due);
        Constructor<?>[] constructors = SugarBelow.class.getDeclaredConstructors();
        due.is("constructors", constructors.length, 1);
        due.is("constructor's parameters", constructors[0].getParameterCount(), 0);
        due.is("constructor public", Modifier.isPublic(constructors[0].getModifiers()) ? 1 : 0, 1);
        due.is("class final", Modifier.isFinal(SugarBelow.class.getModifiers()) ? 1 : 0, 1);
        due.is("class public", Modifier.isPublic(SugarBelow.class.getModifiers()) ? 1 : 0, 1);
        asTheDocumentHasIt(due);
        due.end();
    }

    /** Each line of 'The public face' stands in the class, in the document's order, with the same names of numbers. */
    private static void asTheDocumentHasIt(Due due) throws IOException {
        if (!Files.exists(DOCUMENT)) {
            System.out.println(DOCUMENT + " is not there: its lines are not looked up");
            return;
        }
        String document = Files.readString(DOCUMENT);
        int begin = document.indexOf("```java\n", document.indexOf("## The public face"));
        String[] lines = document.substring(begin, document.indexOf("}\n```", begin)).split("\n");
        String source = Files.readString(SOURCE);
        int place = 0;
        int seen = 0;
        for (int i = 1; i < lines.length; i++) {
            boolean isCall = lines[i].endsWith(");");
            String line = isCall ? lines[i].substring(0, lines[i].length() - 1) + " {\n" : lines[i] + "\n";
            int found = source.indexOf("\n" + line, Math.max(0, place - 1));
            due.is("stands in the class, behind the lines ahead of it: " + lines[i], found < 0 ? 0 : 1, 1);
            place = found < 0 ? place : found + line.length();
            seen += isCall ? 1 : 0;
        }
        due.is("calls and constructors of the document's face", seen, FACE.length + 1);
    }

    private static String told(Method method) {
        StringBuilder text = new StringBuilder(method.getReturnType().getName());
        text.append(' ').append(method.getName()).append('(');
        for (int i = 0; i < method.getParameterCount(); i++) {
            text.append(i == 0 ? "" : ",").append(method.getParameterTypes()[i].getName());
        }
        return text.append(')').toString();
    }

    private static void privateNames(Due due, Set<String> publicNames) {
        due.is("names of public methods", publicNames.size(), FACE.length);
        for (Method method : SugarBelow.class.getDeclaredMethods()) {
            if (Modifier.isPrivate(method.getModifiers())) {
                due.is(method + " has a public one's name", publicNames.contains(method.getName()) ? 1 : 0, 0);
            }
        }
        for (Class<?> inside : SugarBelow.class.getDeclaredClasses()) {
            due.is(inside + " static", Modifier.isStatic(inside.getModifiers()) ? 1 : 0, 1);
            for (Method method : inside.getDeclaredMethods()) {
                due.is(method + " has a public one's name", publicNames.contains(method.getName()) ? 1 : 0, 0);
            }
        }
    }

    private static void fields(Due due) {
        Set<String> seen = new TreeSet<>();
        for (Field field : SugarBelow.class.getDeclaredFields()) {
            if (!Modifier.isPrivate(field.getModifiers())) {
                seen.add(field.getName());
                due.is(field + " static", Modifier.isStatic(field.getModifiers()) ? 1 : 0, 1);
            }
        }
        String[] constants = {"UNKNOWN", "OUTSIDE", "STATE", "FULL", "NO", "NONE", "LOST"};
        due.is("constants: " + seen, seen.equals(new TreeSet<>(Arrays.asList(constants))) ? 1 : 0, 1);
        due.is("UNKNOWN", SugarBelow.UNKNOWN, -1);
        due.is("OUTSIDE", SugarBelow.OUTSIDE, -2);
        due.is("STATE", SugarBelow.STATE, -3);
        due.is("FULL", SugarBelow.FULL, -4);
        due.is("NO", SugarBelow.NO, -5);
        due.is("NONE", SugarBelow.NONE, -6);
        due.is("LOST", SugarBelow.LOST, -1000000000000000000L);
    }
}

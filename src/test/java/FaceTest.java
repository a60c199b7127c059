import java.io.IOException;
import java.lang.reflect.Constructor;
import java.lang.reflect.Field;
import java.lang.reflect.Method;
import java.lang.reflect.Modifier;
import java.nio.file.Files;
import java.nio.file.Path;
import java.util.ArrayList;
import java.util.HashMap;
import java.util.HashSet;
import java.util.List;
import java.util.Map;
import java.util.Set;
import java.util.TreeSet;
import java.util.regex.Matcher;
import java.util.regex.Pattern;

/** The public face as the document has it, and those rules of LANGUAGE.md that a reader of the text can hold. */
public final class FaceTest {
    private static final String FACE = "row/3 set/3 copy/5 drop/1 feed/1 loom/0 fault/0 weave/1 unpick/1 undo/0 cloth/1"
        + " colour/1 suitor/2 holds/3 longest/1 soonest/4 twice/1 looks/1 seen/4 image/1 restore/1 kind/1 as/2 ask/2"
        + " trace/1 count/1 status/0";

    public static void main(String[] args) throws IOException {
        theFaceIsTheDocuments();
        constantsAreTheDocuments();
        noPrivateMethodBearsAPublicName();
        String code = codeWithoutTexts(Files.readString(Path.of("src/main/java/NightLoom.java")));
        nothingRuledOutIsWritten(code);
        theLibraryIsThatOfTheRules(code);
        fieldsAndParametersAreFew();
        methodsStayShort(code);
        callsAreAtMostEightDeep(code);
        Check.end();
    }

    private static void theFaceIsTheDocuments() {
        Set<String> due = new TreeSet<>(Set.of(FACE.split(" ")));
        Set<String> got = new TreeSet<>();
        for (Method m : NightLoom.class.getDeclaredMethods()) {
            if (!Modifier.isPrivate(m.getModifiers())) {
                got.add(m.getName() + "/" + m.getParameterCount());
                Check.isTrue(m.getName() + " is public, of the object, and answers int",
                    m.getModifiers() == Modifier.PUBLIC && m.getReturnType() == int.class);
            }
        }
        Check.isTrue("the face is " + got, got.equals(due));
        Check.isTrue("public and final", NightLoom.class.getModifiers() == (Modifier.PUBLIC | Modifier.FINAL));
        Constructor<?>[] makers = NightLoom.class.getDeclaredConstructors();
        Check.isTrue("one public constructor without parameters", makers.length == 1
            && Modifier.isPublic(makers[0].getModifiers()) && makers[0].getParameterCount() == 0);
        for (Class<?> inside : NightLoom.class.getDeclaredClasses()) {
            Check.isTrue(inside.getName() + " is static", Modifier.isStatic(inside.getModifiers()));
        }
    }

    private static void constantsAreTheDocuments() {
        Set<String> shown = new HashSet<>();
        for (Field f : NightLoom.class.getDeclaredFields()) {
            if (!Modifier.isPrivate(f.getModifiers())) {
                shown.add(f.getName());
            }
        }
        Check.isTrue("constants are " + shown, shown.equals(Set.of("NONE", "BAD", "STATE", "FULL")));
        Check.due("NONE", NightLoom.NONE, -1000000);
        Check.due("BAD", NightLoom.BAD, -1000001);
        Check.due("STATE", NightLoom.STATE, -1000002);
        Check.due("FULL", NightLoom.FULL, -1000003);
    }

    private static void noPrivateMethodBearsAPublicName() {
        Set<String> names = new HashSet<>();
        for (String call : FACE.split(" ")) {
            names.add(call.substring(0, call.indexOf('/')));
        }
        for (Method m : NightLoom.class.getDeclaredMethods()) {
            Check.isTrue("private " + m.getName(), !Modifier.isPrivate(m.getModifiers()) || !names.contains(m.getName()));
        }
        for (Class<?> inside : NightLoom.class.getDeclaredClasses()) {
            for (Method m : inside.getDeclaredMethods()) {
                Check.isTrue(inside.getSimpleName() + "." + m.getName(), !names.contains(m.getName()));
            }
        }
    }

    private static String codeWithoutTexts(String source) {
        return source.replaceAll("(?s)/\\*.*?\\*/", "").replaceAll("//[^\n]*", "").replaceAll("\"[^\"\n]*\"", "\"\"");
    }

    private static void nothingRuledOutIsWritten(String code) {
        String[] ruledOut = {"\\bthrows?\\b", "\\btry\\b", "\\bcatch\\b", "\\bsynchronized\\b", "\\bassert\\b", "->", "::",
            "\\bimport\\b", "\\bpackage\\b", "\\bstatic\\s*\\{", "\\bequals\\b", "\\bhashCode\\b", "\\btoString\\b",
            "Exact\\b", "\\bgetClass\\b", "\\bcurrentTimeMillis\\b", "\\bnanoTime\\b", "\\bRandom\\b", "\\bObject\\b"};
        for (String word : ruledOut) {
            Matcher m = Pattern.compile(word).matcher(code);
            Check.isTrue("without " + word, !m.find());
        }
    }

    private static void theLibraryIsThatOfTheRules(String code) {
        Set<String> due = Set.of("Math.min", "Math.max", "System.arraycopy");
        Matcher m = Pattern.compile("\\b(?:Math|System|Integer|Long|Arrays|String|List)\\.\\w+").matcher(code);
        while (m.find()) {
            Check.isTrue("library: " + m.group(), due.contains(m.group()));
        }
    }

    private static void fieldsAndParametersAreFew() {
        List<Class<?>> all = new ArrayList<>(List.of(NightLoom.class.getDeclaredClasses()));
        all.add(NightLoom.class);
        for (Class<?> c : all) {
            int fields = 0;
            for (Field f : c.getDeclaredFields()) {
                fields += Modifier.isStatic(f.getModifiers()) ? 0 : 1;
                Check.isTrue(c.getSimpleName() + "." + f.getName() + " is of the object, or final",
                    !Modifier.isStatic(f.getModifiers()) || Modifier.isFinal(f.getModifiers()));
            }
            Check.isTrue(c.getSimpleName() + " has " + fields + " fields", fields <= 20);
            for (Method m : c.getDeclaredMethods()) {
                Check.isTrue(m.getName() + " takes at most seven", m.getParameterCount() <= 7);
            }
        }
    }

    private static void methodsStayShort(String code) {
        String[] lines = code.split("\n");
        int classes = 0;
        for (int i = 0; i < lines.length; i++) {
            classes += lines[i].matches(".*\\bclass \\w+.*") ? 1 : 0;
            Matcher head = Pattern.compile("^( +)(?! )(?:[\\w\\[\\]]+ )*(\\w+)\\([^;]*\\) \\{$").matcher(lines[i]);
            if (head.find() && !lines[i].trim().matches("(if|for|while|switch|else|return)\\b.*")) {
                int end = i;
                while (end < lines.length && !lines[end].equals(head.group(1) + "}")) {
                    end++;
                }
                Check.isTrue(head.group(2) + " has " + (end - i + 1) + " lines", end - i + 1 <= 60);
            }
        }
        Check.isTrue(classes + " classes", classes <= 12);
    }

    /** By names alone: methods of one name count as one, which can only make it deeper. */
    private static void callsAreAtMostEightDeep(String code) {
        Map<String, Set<String>> calls = new HashMap<>();
        String[] lines = code.split("\n");
        for (int i = 0; i < lines.length; i++) {
            Matcher head = Pattern.compile("^( +)(?:(?:public|private|static) )*(?:\\w+ )?(\\w+)\\([^;]*\\) \\{$").matcher(lines[i]);
            if (head.find() && !head.group(2).matches("if|for|while|switch")) {
                Set<String> called = calls.computeIfAbsent(head.group(2), name -> new HashSet<>());
                for (int at = i + 1; at < lines.length && !lines[at].equals(head.group(1) + "}"); at++) {
                    Matcher call = Pattern.compile("\\b(\\w+)\\(").matcher(lines[at]);
                    while (call.find()) {
                        called.add(call.group(1));
                    }
                }
            }
        }
        for (Set<String> names : calls.values()) {
            names.removeAll(Set.of("if", "for", "while", "switch", "return"));
        }
        for (String call : FACE.split(" ")) {
            String name = call.substring(0, call.indexOf('/'));
            int depth = depthOf(name, calls, 0);
            Check.isTrue(name + " goes " + depth + " deep", calls.containsKey(name) && depth <= 8);
        }
    }

    private static int depthOf(String name, Map<String, Set<String>> calls, int above) {
        int deepest = 0;
        if (above < 20 && calls.containsKey(name)) {
            for (String called : calls.get(name)) {
                deepest = Math.max(deepest, depthOf(called, calls, above + 1));
            }
        }
        return deepest + 1;
    }
}

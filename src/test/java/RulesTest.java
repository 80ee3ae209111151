import java.nio.file.Files;
import java.nio.file.Path;
import java.util.List;
import java.util.Set;
import java.util.TreeSet;
import java.util.regex.Matcher;
import java.util.regex.Pattern;

/**
 * Rules of LANGUAGE.md that the source's words show: what is left out of Java, and how long methods are.
 * It holds the class to what it uses now, which is less than the rules leave: what else is wanted is to
 * be looked up in LANGUAGE.md first, and then let by here.
 */
public final class RulesTest {
    private static final Due due = new Due();
    private static final int LONGEST_METHOD = 60;
    private static final int DEEPEST_METHOD_INDENT = 8;

    public static void main(String[] args) throws Exception {
        String source = Files.readString(Path.of("src/main/java/StarSenders.java"));
        String code = withoutComments(source);
        noPackageAndOneImport(code);
        wordsLeftOut(code);
        typesAndLibrary(code);
        noStaticState(code);
        objectsAreMadeWithTheirOwner(code);
        methodsStayShort(source);
        due.end();
    }

    private static String withoutComments(String source) {
        return Pattern.compile("/\\*.*?\\*/|//[^\n]*", Pattern.DOTALL).matcher(source).replaceAll("");
    }

    private static Set<String> found(String code, String pattern) {
        Set<String> found = new TreeSet<>();
        Matcher m = Pattern.compile(pattern).matcher(code);
        while (m.find()) {
            found.add(m.group(m.groupCount()));
        }
        return found;
    }

    private static void isSet(String what, Set<String> got, Set<String> want) {
        due.holds(what + ": " + got + ", due are " + new TreeSet<>(want), got.equals(want));
    }

    private static void noPackageAndOneImport(String code) {
        due.sentence("rules 1 and 4: one file, without a package line, and the library that stands there");
        isSet("packages", found(code, "\\bpackage\\s+(\\S+)"), Set.of());
        isSet("imports", found(code, "\\bimport\\s+([^;]+);"), Set.of("java.util.Arrays"));
    }

    private static void wordsLeftOut(String code) {
        due.sentence("rules 2 and 6: no throw, try, catch, synchronized, assert, lambda, method reference");
        isSet("words left out",
            found(code, "\\b(throws?|try|catch|finally|synchronized|assert|native|volatile|transient)\\b"), Set.of());
        isSet("signs left out", found(code, "(->|::|@\\w+)"), Set.of());
        due.sentence("rule 6: no equals, hashCode or toString of your own objects");
        isSet("methods left out", found(code, "\\b(equals|hashCode|toString|getClass)\\b"), Set.of());
    }

    private static void typesAndLibrary(String code) {
        due.sentence("rules 3 and 4: the types and the library that stand there");
        isSet("types that are no int, long or boolean", found(code, "\\b(double|float|short|byte|char|Object|var)\\b"), Set.of());
        isSet("of the library", found(code, "\\b((?:Arrays|Math|System|Integer|Long|String\\w*|List|ArrayList)\\.\\w+)"),
            Set.of("Arrays.fill", "Math.floorMod", "Math.max", "System.arraycopy"));
    }

    private static void noStaticState(String code) {
        due.sentence("rule 5: static fields are final constants, no static initialiser block");
        isSet("static blocks", found(code, "\\bstatic\\s*(\\{)"), Set.of());
        Matcher m = Pattern.compile("\\bstatic\\s+(?!final class|int \\w+\\(|boolean \\w+\\()([^;={]*)").matcher(code);
        while (m.find()) {
            due.holds("static " + m.group(1).trim() + " is a constant of int", m.group(1).startsWith("final int "));
        }
    }

    /** README.md says that no call makes an object: only fields and the constructor of Net have 'new'. */
    private static void objectsAreMadeWithTheirOwner(String code) {
        due.sentence("rule 12: what a run makes is counted");
        for (String line : code.split("\n")) {
            if (line.contains("new ")) {
                boolean field = line.matches(" {4,8}(private )?final [\\w\\[\\]]+ \\w+ = new .*;");
                boolean ownRow = line.strip().equals("senders[i] = new Sender();") || line.strip().equals("gates[j] = new Gate();");
                due.holds(line.strip() + " stands in a field or in the constructor", field || ownRow);
            }
        }
    }

    /** A method begins and ends at the same indent, which is 4 in the face and 8 in the classes inside. */
    private static void methodsStayShort(String source) {
        due.sentence("rule 11: methods stay short (some sixty lines)");
        List<String> lines = source.lines().toList();
        int methods = 0;
        for (int begin = 0; begin < lines.size(); begin++) {
            Matcher m = Pattern.compile("^( {4,8})(?!.*\\bclass\\b)\\S.*\\) \\{$").matcher(lines.get(begin));
            if (m.find() && m.group(1).length() <= DEEPEST_METHOD_INDENT && !lines.get(begin).strip().matches("(if|for|while|switch|\\}).*")) {
                int end = begin + lines.subList(begin, lines.size()).indexOf(m.group(1) + "}");
                due.holds(lines.get(begin).strip() + " has " + (end - begin + 1) + " lines", end > begin && end - begin < LONGEST_METHOD);
                methods++;
            }
        }
        due.holds("methods were found: " + methods, methods > 60);
    }
}

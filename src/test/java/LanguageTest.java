import java.lang.reflect.Constructor;
import java.lang.reflect.Field;
import java.lang.reflect.Method;
import java.lang.reflect.Modifier;
import java.nio.file.Files;
import java.nio.file.Path;
import java.util.Arrays;
import java.util.Set;
import java.util.TreeSet;
import java.util.regex.Matcher;
import java.util.regex.Pattern;
import java.util.stream.Collectors;

/** Rules of ../shared/LANGUAGE.md that a look at the class and its text can tell. */
public final class LanguageTest {
    private static final Due DUE = new Due("LanguageTest");
    private static final String FACE = "act aims anew back begin bell body chance count drawn element even fair feed image"
        + " judge just keep law league mend of order player players points prize put redo rest row seen settle shift step"
        + " taken trace undo worth would";

    public static void main(String[] args) throws Exception {
        String text = Files.readString(Path.of("src/main/java/ThreeSnowballs.java"));
        face();
        members();
        signs(text);
        String bare = text.replaceAll("(?s)/\\*.*?\\*/", " ").replaceAll("//[^\\n]*", " ").replaceAll("'.'", "0");
        words(bare);
        library(bare);
        methods(bare);
        DUE.end();
    }

    private static void face() {
        Class<?> c = ThreeSnowballs.class;
        DUE.due("1 public and final", c.getModifiers() & (Modifier.PUBLIC | Modifier.FINAL), Modifier.PUBLIC | Modifier.FINAL);
        Set<String> shown = Arrays.stream(c.getDeclaredMethods()).filter(m -> !Modifier.isPrivate(m.getModifiers()))
            .map(Method::getName).collect(Collectors.toCollection(TreeSet::new));
        DUE.due("1 the face " + shown, String.join(" ", shown).equals(FACE) ? 1 : 0, 1);
        Set<String> constants = Arrays.stream(c.getDeclaredFields()).filter(f -> !Modifier.isPrivate(f.getModifiers()))
            .map(Field::getName).collect(Collectors.toCollection(TreeSet::new));
        DUE.due("1 constants " + constants, String.join(" ", constants).equals("BAD FULL NOT STATE VOID") ? 1 : 0, 1);
        Constructor<?>[] constructors = c.getDeclaredConstructors();
        DUE.due("1 constructors", constructors.length, 1);
        for (Method m : c.getDeclaredMethods()) {
            boolean isTwofold = Modifier.isPrivate(m.getModifiers()) && Set.of(FACE.split(" ")).contains(m.getName());
            DUE.due("1 no private one bears a public one's name: " + m, isTwofold ? 1 : 0, 0);
        }
    }

    private static void members() {
        Class<?>[] inside = ThreeSnowballs.class.getDeclaredClasses();
        DUE.due("11 some twelve classes", inside.length <= 11 ? 1 : 0, 1);
        fieldsOf(ThreeSnowballs.class);
        for (Class<?> c : inside) {
            DUE.due("2 static: " + c, Modifier.isStatic(c.getModifiers()) ? 1 : 0, 1);
            DUE.due("1 not public: " + c, Modifier.isPublic(c.getModifiers()) || Modifier.isProtected(c.getModifiers()) ? 1 : 0, 0);
            DUE.due("2 none inside it: " + c, c.getDeclaredClasses().length, 0);
            fieldsOf(c);
            for (Method m : c.getDeclaredMethods()) {
                boolean isTwofold = Modifier.isPrivate(m.getModifiers()) && Set.of(FACE.split(" ")).contains(m.getName());
                DUE.due("1 no private one bears a public one's name: " + m, isTwofold ? 1 : 0, 0);
            }
        }
    }

    private static void fieldsOf(Class<?> c) {
        int own = 0;
        for (Field f : c.getDeclaredFields()) {
            if (Modifier.isStatic(f.getModifiers())) {
                DUE.due("5 final: " + f, Modifier.isFinal(f.getModifiers()) ? 1 : 0, 1);
            } else {
                own++;
            }
        }
        DUE.due("11 some twenty fields: " + c, own <= 20 ? 1 : 0, 1);
        for (Method m : c.getDeclaredMethods()) {
            DUE.due("11 parameters: " + m, m.getParameterCount() <= 7 ? 1 : 0, 1);
            boolean isOfAll = Set.of("equals", "hashCode", "toString", "finalize", "clone").contains(m.getName());
            DUE.due("6 " + m, isOfAll ? 1 : 0, 0);
        }
    }

    private static void signs(String text) {
        DUE.due("4 signs above 127", text.chars().filter(c -> c > 127).count(), 0);
    }

    private static void words(String bare) {
        String[] forbidden = {"throw", "throws", "try", "catch", "finally", "synchronized", "assert", "import", "package",
            "volatile", "native", "strictfp", "transient", "record", "yield", "var", "goto"};
        for (String word : forbidden) {
            DUE.due("6 " + word, Pattern.compile("\\b" + word + "\\b").matcher(bare).find() ? 1 : 0, 0);
        }
        DUE.due("2 no lambda", bare.contains("->") ? 1 : 0, 0);
        DUE.due("2 no method reference", bare.contains("::") ? 1 : 0, 0);
        DUE.due("2 no anonymous class", Pattern.compile("new \\w+\\([^;]*\\)\\s*\\{").matcher(bare).find() ? 1 : 0, 0);
        DUE.due("10 no text", bare.contains("\"") ? 1 : 0, 0);
        DUE.due("9 no loop without a bound", Pattern.compile("while \\(true\\)|for \\(;;").matcher(bare).find() ? 1 : 0, 0);
    }

    private static void library(String bare) {
        Set<String> allowed = Set.of("Math.max", "Math.min", "Math.abs", "Integer.bitCount", "Long.MIN_VALUE", "Long.MAX_VALUE",
            "System.arraycopy");
        Matcher named = Pattern.compile("\\b(Math|Integer|Long|System|String|Arrays|Object)\\b(\\.\\w+)?").matcher(bare);
        while (named.find()) {
            DUE.due("4 " + named.group(), allowed.contains(named.group()) ? 1 : 0, 1);
        }
    }

    /** The lines of each method: from its head to the brace that stands as far in. */
    private static void methods(String bare) {
        String[] lines = bare.split("\n");
        Pattern head = Pattern.compile("^(    |        )(public |private )?(static )?[\\w\\[\\]]+( \\w+)?\\(.*\\) \\{$");
        int found = 0;
        for (int i = 0; i < lines.length; i++) {
            Matcher m = head.matcher(lines[i]);
            if (m.matches() && !lines[i].trim().matches("(if|for|while|switch|return|else)\\b.*")) {
                int end = i;
                while (!lines[end].equals(m.group(1) + "}")) {
                    end++;
                }
                found++;
                DUE.due("11 short: " + lines[i].trim(), end - i + 1 <= 60 ? 1 : 0, 1);
            }
        }
        DUE.due("11 methods looked at", found > 80 ? 1 : 0, 1);
    }
}

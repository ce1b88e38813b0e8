import java.lang.reflect.Field;
import java.lang.reflect.Method;
import java.lang.reflect.Modifier;
import java.nio.file.Files;
import java.nio.file.Path;
import java.util.ArrayList;
import java.util.List;
import java.util.Set;
import java.util.TreeSet;
import java.util.regex.Matcher;
import java.util.regex.Pattern;

/** Those rules of ../shared/LANGUAGE.md that a look at the text and at the compiled classes can tell. */
public final class LanguageTest {
    private static final String PROGRAM = "src/main/java/FareNumbers.java";
    private static final Set<String> FACE = Set.of("lay", "feed", "end", "text", "fault", "by", "plate", "turn", "grant",
        "day", "played", "years", "undo", "of", "ofHalt", "costs", "is", "book", "foretold", "fair", "left", "twin",
        "whole", "wholes", "span", "apart", "alike", "alikes", "unlike", "band", "total", "mend", "names", "parts",
        "cuts", "game", "mark", "ride", "change", "said", "whose", "dearest", "highest", "ledger", "image", "back",
        "about");
    private static final Set<String> LIBRARY = Set.of("System.arraycopy", "Math.abs", "Math.max", "Math.min",
        "Integer.bitCount", "Long.bitCount", "WORDS.charAt");

    private static int wrong = 0;

    private static void tell(String fault) {
        wrong++;
        System.out.println(fault);
    }

    public static void main(String[] args) throws Exception {
        String text = Files.readString(Path.of(PROGRAM));
        String code = bare(text);
        words(code);
        calls(code);
        methods(code);
        classes();
        if (wrong != 0) {
            System.exit(1);
        }
        System.out.println("the program keeps to the language");
    }

    /** The text without comments, texts and signs. */
    private static String bare(String text) {
        return Pattern.compile("/\\*.*?\\*/|//[^\n]*|\"[^\"\n]*\"|'[^'\n]*'", Pattern.DOTALL).matcher(text)
            .replaceAll(found -> found.group().replaceAll("[^\n]", " "));
    }

    private static void words(String code) {
        String[] banned = {"throw", "throws", "try", "catch", "finally", "synchronized", "assert", "import", "package",
            "volatile", "native", "var", "yield", "equals", "hashCode", "toString", "instanceof", "protected", "super"};
        for (String word : banned) {
            Matcher found = Pattern.compile("\\b" + word + "\\b").matcher(code);
            if (found.find()) {
                tell(word + " stands in line " + line(code, found.start()));
            }
        }
        for (String sign : new String[] {"->", "::", "static {"}) {
            if (code.contains(sign)) {
                tell(sign + " stands in line " + line(code, code.indexOf(sign)));
            }
        }
        for (int i = 0; i < code.length(); i++) {
            if (code.charAt(i) > 126 || code.charAt(i) == '\t') {
                tell("an unlike sign stands in line " + line(code, i));
                return;
            }
        }
    }

    private static int line(String code, int at) {
        return (int) code.substring(0, at).chars().filter(sign -> sign == '\n').count() + 1;
    }

    /** What is made and what is called of the library. */
    private static void calls(String code) {
        Matcher call = Pattern.compile("\\b([A-Z]\\w*\\.[a-z]\\w*)\\(").matcher(code);
        while (call.find()) {
            if (!LIBRARY.contains(call.group(1))) {
                tell(call.group(1) + " is called in line " + line(code, call.start()));
            }
        }
        Matcher made = Pattern.compile("\\bnew (\\w+)").matcher(code);
        while (made.find()) {
            boolean own = code.contains("static final class " + made.group(1) + " ");
            if (!own && !Set.of("int", "byte", "long", "boolean").contains(made.group(1))) {
                tell("new " + made.group(1) + " in line " + line(code, made.start()));
            }
        }
    }

    /** Short methods, and none with more than seven parameters. */
    private static void methods(String code) {
        String[] lines = code.split("\n");
        String name = "";
        int from = 0;
        Pattern head = Pattern.compile("^( {4}| {8})(?:[\\w\\[\\]]+ )*(\\w+)\\((.*)\\) \\{$");
        for (int i = 0; i < lines.length; i++) {
            Matcher found = head.matcher(lines[i]);
            if (found.matches()) {
                name = found.group(2);
                from = i;
                if (found.group(3).split(",").length > 7) {
                    tell(name + " takes more than seven parameters");
                }
            }
            if (lines[i].matches("^( {4}| {8})\\}$") && i - from > 60 && from > 0) {
                String indent = lines[i].replace("}", "");
                if (lines[from].startsWith(indent) && !lines[from].startsWith(indent + " ")) {
                    tell(name + " has " + (i - from) + " lines");
                }
            }
        }
    }

    private static void classes() throws Exception {
        Class<?>[] inside = FareNumbers.class.getDeclaredClasses();
        if (inside.length + 1 > 12) {
            tell("there are " + (inside.length + 1) + " classes");
        }
        Set<String> face = new TreeSet<>();
        for (Method method : FareNumbers.class.getDeclaredMethods()) {
            if (Modifier.isPublic(method.getModifiers())) {
                face.add(method.getName());
            } else if (!Modifier.isPrivate(method.getModifiers())) {
                tell(method.getName() + " is neither public nor private");
            }
        }
        if (!face.equals(new TreeSet<>(FACE))) {
            tell("the face is " + face);
        }
        List<Class<?>> all = new ArrayList<>(List.of(inside));
        all.add(FareNumbers.class);
        for (Class<?> one : all) {
            oneClass(one);
        }
    }

    private static void oneClass(Class<?> one) {
        if (one != FareNumbers.class && !Modifier.isStatic(one.getModifiers())) {
            tell(one + " is not static");
        }
        int own = 0;
        for (Field field : one.getDeclaredFields()) {
            boolean isStatic = Modifier.isStatic(field.getModifiers());
            own += isStatic ? 0 : 1;
            if (isStatic && !Modifier.isFinal(field.getModifiers())) {
                tell(field + " is not final");
            }
            if (one == FareNumbers.class && !Modifier.isPrivate(field.getModifiers()) && !field.getName().equals("NONE")) {
                tell(field + " is not private");
            }
        }
        if (own > 20) {
            tell(one + " has " + own + " fields");
        }
        for (Method method : one.getDeclaredMethods()) {
            if ((one != FareNumbers.class || !Modifier.isPublic(method.getModifiers())) && FACE.contains(method.getName())) {
                tell(method + " has a name of the face");
            }
        }
    }
}

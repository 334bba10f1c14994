import java.lang.reflect.Constructor;
import java.lang.reflect.Field;
import java.lang.reflect.Method;
import java.lang.reflect.Modifier;
import java.nio.file.Files;
import java.nio.file.Path;
import java.util.ArrayList;
import java.util.List;
import java.util.Set;
import java.util.TreeSet;
import java.util.regex.Matcher;
import java.util.regex.Pattern;

/** The public face, and those rules of LANGUAGE.md that a look at the class and its source can tell. */
public final class FaceTest {
    private static final String[] METHODS = {
        "int pay(int)", "int setSlope(int)", "int weight(boolean)", "int clamp(boolean)", "int takeOff(int)",
        "int send()", "int pass(int)", "int setWater(int,int,int)", "int set(int,int)", "int type(char)",
        "int clearText()", "int perform()", "int stopped(int)", "int undo()", "int keep()", "int restore()",
        "int bottle(int,int)", "int messenger(int,int)", "int layer(int,int)", "int depth(int,int)",
        "int reason(int)", "int shutIn(int)", "int quietIn()", "int worst()", "int count(int)"};
    private static final String[] CONSTANTS = {"UNKNOWN", "BAD_VALUE", "FULL", "NOT_POSSIBLE", "NONE"};
    private static final String[] FORBIDDEN = {
        "throw", "throws", "try", "catch", "finally", "synchronized", "assert", "import", "package", "protected",
        "System.out", "Object", "native", "volatile", "transient", "hashCode", "toString", "instanceof"};

    private static int wrong;

    public static void main(String[] args) throws Exception {
        face();
        nested();
        source(Files.readString(Path.of(args.length > 0 ? args[0] : "src/main/java/MessengerCasts.java")));
        System.out.println("FaceTest: " + wrong + " wrong");
        if (wrong != 0) {
            System.exit(1);
        }
    }

    private static void fail(String what) {
        wrong++;
        System.out.println(what);
    }

    private static String sign(Method method) {
        StringBuilder text = new StringBuilder();
        text.append(method.getReturnType()).append(' ').append(method.getName()).append('(');
        for (int i = 0; i < method.getParameterCount(); i++) {
            text.append(i > 0 ? "," : "").append(method.getParameterTypes()[i]);
        }
        return text.append(')').toString();
    }

    private static void face() {
        Class<?> type = MessengerCasts.class;
        if (type.getModifiers() != (Modifier.PUBLIC | Modifier.FINAL)) {
            fail("the class is not public and final alone");
        }
        Set<String> found = new TreeSet<>();
        Set<String> names = new TreeSet<>();
        for (Method method : type.getDeclaredMethods()) {
            if (Modifier.isPublic(method.getModifiers())) {
                found.add(sign(method));
                names.add(method.getName());
            } else if (!Modifier.isPrivate(method.getModifiers())) {
                fail(method + " is neither public nor private");
            }
        }
        if (!found.equals(new TreeSet<>(List.of(METHODS)))) {
            fail("the public methods are " + found);
        }
        for (Method method : type.getDeclaredMethods()) {
            if (Modifier.isPrivate(method.getModifiers()) && names.contains(method.getName())) {
                fail(method + " bears the name of a public one");
            }
        }
        Set<String> constants = new TreeSet<>();
        for (Field field : type.getDeclaredFields()) {
            if (Modifier.isPublic(field.getModifiers())) {
                constants.add(field.getName());
            } else if (!Modifier.isPrivate(field.getModifiers())) {
                fail(field + " is neither public nor private");
            }
        }
        if (!constants.equals(new TreeSet<>(List.of(CONSTANTS)))) {
            fail("the public fields are " + constants);
        }
        Constructor<?>[] constructors = type.getDeclaredConstructors();
        if (constructors.length != 1 || constructors[0].getParameterCount() != 0) {
            fail("there is not the one constructor alone");
        }
    }

    private static void nested() {
        Class<?>[] inside = MessengerCasts.class.getDeclaredClasses();
        if (inside.length > 11) {
            fail("there are " + (inside.length + 1) + " classes");
        }
        List<Class<?>> all = new ArrayList<>(List.of(inside));
        all.add(MessengerCasts.class);
        for (Class<?> type : all) {
            boolean isOuter = type == MessengerCasts.class;
            if (!isOuter && (!Modifier.isStatic(type.getModifiers()) || Modifier.isPublic(type.getModifiers()))) {
                fail(type + " is not static or is public");
            }
            int fields = 0;
            for (Field field : type.getDeclaredFields()) {
                boolean isStatic = Modifier.isStatic(field.getModifiers());
                fields += isStatic ? 0 : 1;
                if (isStatic && !Modifier.isFinal(field.getModifiers())) {
                    fail(field + " is static and not final");
                }
            }
            if (fields > 20) {
                fail(type + " has " + fields + " fields");
            }
            for (Method method : type.getDeclaredMethods()) {
                if (method.getParameterCount() > 7) {
                    fail(method + " has too many parameters");
                }
            }
        }
    }

    private static void source(String text) {
        for (int i = 0; i < text.length(); i++) {
            if (text.charAt(i) > 126) {
                fail("the source has the character " + (int) text.charAt(i));
            }
        }
        String code = text.replaceAll("(?s)/\\*.*?\\*/", " ").replaceAll("//[^\n]*", " ");
        for (String word : FORBIDDEN) {
            if (Pattern.compile("\\b" + Pattern.quote(word) + "\\b").matcher(code).find()) {
                fail("the source has the word " + word);
            }
        }
        if (code.contains("->") || code.contains("::") || code.contains("@")) {
            fail("the source has a lambda, a method reference or an annotation");
        }
        Matcher calls = Pattern.compile("\\bMath\\.(\\w+)").matcher(code);
        while (calls.find()) {
            if (!List.of("abs", "max", "min").contains(calls.group(1))) {
                fail("the source calls " + calls.group());
            }
        }
        shortMethods(text);
        madeInConstructors(code);
    }

    private static void shortMethods(String text) {
        int begun = -1;
        String[] lines = text.split("\n");
        for (int i = 0; i < lines.length; i++) {
            if (lines[i].matches(" {4}(    )?\\S.*\\) \\{")) {
                begun = i;
            } else if (begun >= 0 && lines[i].matches(" {4}(    )?\\}") && i - begun > 60) {
                fail("the method in line " + (begun + 1) + " is too long");
            }
        }
    }

    /** No call makes an object: every "new" stands in a field's line or in a constructor. */
    private static void madeInConstructors(String code) {
        boolean isConstructor = false;
        for (String line : code.split("\n")) {
            if (line.matches(" {4}(    )?(public )?[A-Z]\\w*\\(\\) \\{")) {
                isConstructor = true;
            } else if (line.matches(" {4}(    )?\\}")) {
                isConstructor = false;
            } else if (line.matches(".*\\bnew\\b.*") && !isConstructor && !line.matches(" +(private )?final .*")) {
                fail("made outside a constructor: " + line.trim());
            }
        }
    }
}

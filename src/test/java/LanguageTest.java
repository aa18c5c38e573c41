import java.lang.reflect.Constructor;
import java.lang.reflect.Field;
import java.lang.reflect.Method;
import java.lang.reflect.Modifier;
import java.nio.charset.StandardCharsets;
import java.nio.file.Files;
import java.nio.file.Paths;
import java.util.ArrayList;
import java.util.List;
import java.util.Set;
import java.util.TreeSet;
import java.util.regex.Matcher;
import java.util.regex.Pattern;

/** The rules of LANGUAGE.md that can be seen in the text of the class, and the document's face. */
public final class LanguageTest {
    private static final String FACE = "person/4 put/3 of/2 parent/2 terms/2 chest/1 feed/5 end/1 row/0 mould/0 law/0 "
            + "orders/0 fault/0 stopped/0 force/1 asks/3 kin/3 line/2 marry/2 forged/0 buy/3 undo/0 offers/2 cheap/3 "
            + "join/3 claim/2 dismiss/0 lies/1 sight/3 forget/0 secret/1 fair/2 drawn/2 image/1 back/1 count/1 status/0";
    private static int wrong = 0;

    private static void check(boolean right, String what) {
        if (!right) {
            wrong++;
            System.out.println(what);
        }
    }

    private static void face() {
        Set<String> want = new TreeSet<>(List.of(FACE.split(" ")));
        Set<String> got = new TreeSet<>();
        Set<String> names = new TreeSet<>();
        for (Method method : BoughtKin.class.getDeclaredMethods()) {
            if (Modifier.isPublic(method.getModifiers())) {
                got.add(method.getName() + "/" + method.getParameterCount());
                names.add(method.getName());
                check(method.getReturnType() == int.class, method.getName() + " does not answer an int");
            } else {
                check(Modifier.isPrivate(method.getModifiers()), method.getName() + " is not private");
            }
        }
        check(got.equals(want), "the face is " + got);
        check(Modifier.isFinal(BoughtKin.class.getModifiers()), "the class is not final");
        check(BoughtKin.class.getDeclaredConstructors().length == 1, "there is another constructor");
        for (Constructor<?> made : BoughtKin.class.getDeclaredConstructors()) {
            check(Modifier.isPublic(made.getModifiers()) && made.getParameterCount() == 0, "the constructor is another");
        }
        check(BoughtKin.class.getDeclaredClasses().length <= 11, "there are more than twelve classes");
        looksAt(BoughtKin.class, names);
        for (Class<?> inside : BoughtKin.class.getDeclaredClasses()) {
            check(Modifier.isStatic(inside.getModifiers()), inside + " is not static");
            check(!Modifier.isPublic(inside.getModifiers()), inside + " is public");
            looksAt(inside, names);
        }
    }

    private static void looksAt(Class<?> one, Set<String> publicNames) {
        int fields = 0;
        for (Field field : one.getDeclaredFields()) {
            boolean isStatic = Modifier.isStatic(field.getModifiers());
            fields += isStatic ? 0 : 1;
            check(!isStatic || Modifier.isFinal(field.getModifiers()), field + " is static and not final");
            boolean isFace = field.getName().equals("NONE");
            check(one != BoughtKin.class || Modifier.isPrivate(field.getModifiers()) || isFace, field + " can be seen");
        }
        check(fields <= 20, one + " has " + fields + " fields");
        for (Method method : one.getDeclaredMethods()) {
            check(method.getParameterCount() <= 7, method + " takes too many");
            boolean face = one == BoughtKin.class && Modifier.isPublic(method.getModifiers());
            check(face || !publicNames.contains(method.getName()), method + " bears a public name");
        }
    }

    private static String withoutComments(String text) {
        return Pattern.compile("/\\*.*?\\*/", Pattern.DOTALL).matcher(text).replaceAll("").replaceAll("//[^\n]*", "");
    }

    private static void text(String path) throws Exception {
        String text = withoutComments(Files.readString(Paths.get(path), StandardCharsets.ISO_8859_1));
        String bare = text.replaceAll("\"[^\"\n]*\"", "\"\"");
        for (String word : new String[] {"throw", "throws", "try", "catch", "synchronized", "assert", "package", "native",
            "volatile", "transient", "var", "yield", "hashCode", "toString", "equals", "goto", "double", "float"}) {
            check(!Pattern.compile("\\b" + word + "\\b").matcher(bare).find(), "there is " + word);
        }
        for (String sign : new String[] {"->", "::", "Exact", "@"}) {
            check(!bare.contains(sign), "there is " + sign);
        }
        Matcher imports = Pattern.compile("import ([^;]*);").matcher(bare);
        while (imports.find()) {
            check(imports.group(1).equals("java.util.Arrays"), "there is an import of " + imports.group(1));
        }
        Matcher calls = Pattern.compile("\\b(Math|Integer|Long|Arrays|System|String)\\.(\\w+)").matcher(bare);
        Set<String> allowed = Set.of("Math.max", "Math.min", "Integer.bitCount", "Arrays.fill", "System.arraycopy");
        while (calls.find()) {
            check(allowed.contains(calls.group()), "there is " + calls.group());
        }
        for (char sign : text.toCharArray()) {
            check(sign < 128, "there is a sign beyond 127");
        }
        methodsAreShort(bare);
    }

    private static void methodsAreShort(String bare) {
        List<String> lines = new ArrayList<>(List.of(bare.split("\n")));
        for (int i = 0; i < lines.size(); i++) {
            Matcher head = Pattern.compile("^( {4}| {8})(public |private |static )*[\\w\\[\\]]+ \\w+\\(.*\\{$")
                    .matcher(lines.get(i));
            if (head.find()) {
                int end = i;
                while (end < lines.size() && !lines.get(end).equals(head.group(1) + "}")) {
                    end++;
                }
                check(end - i <= 60, "too long: " + lines.get(i));
            }
        }
    }

    public static void main(String[] args) throws Exception {
        face();
        text(args.length > 0 ? args[0] : "src/main/java/BoughtKin.java");
        System.out.println(wrong == 0 ? "the class keeps to the rules" : wrong + " rules are broken");
        if (wrong != 0) {
            System.exit(1);
        }
    }
}

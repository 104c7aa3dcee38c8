import java.lang.reflect.Constructor;
import java.lang.reflect.Field;
import java.lang.reflect.Method;
import java.lang.reflect.Modifier;
import java.nio.file.Files;
import java.nio.file.Path;
import java.util.ArrayList;
import java.util.List;
import java.util.NoSuchElementException;
import java.util.Random;
import java.util.TreeSet;
import java.util.regex.Matcher;
import java.util.regex.Pattern;

/** The face of the document, rules of LANGUAGE.md that can be seen, and that nothing else is ever thrown. */
public final class FaceTest {
    private static final String FACE = "sign(int) end(int) roads() riders() rule() place(int,int) rider(int,int)"
        + " view(int,int) sheet(int,int,int,int) mount(int,int) dismount() ride(int) walk(int,int) lead(int,int)"
        + " rest(int) deal(int,int) journey() undo() where(int) stops(int,int,int) trail(int,int,int)"
        + " reaches(int,int,int,int) pairs(int,int) changes(int,int) stations(int) foot(int,int) record(int)"
        + " matches(int,int) partner(int,int) agree(int,int) convinces(int,int,int) claim(int,int) lie(int,int)"
        + " prints() fits() views() editions(int) kinds(int,int) county(int,int) keep(int) again(int) count(int)"
        + " row(int)";
    private static int wrong;

    private static void check(boolean holds, String what) {
        if (!holds) {
            wrong++;
            System.out.println(what);
        }
    }

    public static void main(String[] args) throws Exception {
        face();
        source();
        anyArguments();
        System.out.println(wrong == 0 ? "the face is as due" : wrong + " faults of the face");
        if (wrong > 0) {
            System.exit(1);
        }
    }

    private static void face() {
        Class<?> type = OfDifferentMinds.class;
        check(Modifier.isPublic(type.getModifiers()) && Modifier.isFinal(type.getModifiers()), "public final class");
        TreeSet<String> want = new TreeSet<>(List.of(FACE.split(" ")));
        TreeSet<String> names = new TreeSet<>();
        for (String w : want) {
            names.add(w.substring(0, w.indexOf('(')));
        }
        TreeSet<String> got = new TreeSet<>();
        for (Method m : type.getDeclaredMethods()) {
            if (Modifier.isPrivate(m.getModifiers())) {
                check(!names.contains(m.getName()), "a private method bears a public name: " + m);
                continue;
            }
            check(Modifier.isPublic(m.getModifiers()) && !Modifier.isStatic(m.getModifiers()), "no member of the face: " + m);
            List<String> types = new ArrayList<>();
            for (Class<?> p : m.getParameterTypes()) {
                types.add(p.getName());
            }
            got.add(m.getName() + "(" + String.join(",", types) + ")");
            boolean bool = List.of("end", "keep", "again").contains(m.getName());
            check(m.getReturnType() == (bool ? boolean.class : int.class), "answer of " + m);
            boolean throwing = List.of("place", "rider", "row").contains(m.getName());
            Class<?>[] thrown = m.getExceptionTypes();
            check(throwing ? thrown.length == 1 && thrown[0] == NoSuchElementException.class : thrown.length == 0, "throws of " + m);
        }
        check(got.equals(want), "methods are " + got);
        for (Field f : type.getDeclaredFields()) {
            boolean none = f.getName().equals("NONE") && f.getModifiers() == (Modifier.PUBLIC | Modifier.STATIC | Modifier.FINAL);
            check(none || Modifier.isPrivate(f.getModifiers()), "field " + f);
            check(!Modifier.isStatic(f.getModifiers()) || Modifier.isFinal(f.getModifiers()), "static state: " + f);
        }
        Constructor<?>[] all = type.getDeclaredConstructors();
        check(all.length == 1 && all[0].getParameterCount() == 0 && Modifier.isPublic(all[0].getModifiers()), "constructor");
        for (Class<?> c : type.getDeclaredClasses()) {
            for (Method m : c.getDeclaredMethods()) {
                check(!names.contains(m.getName()), "a method inside bears a public name: " + m);
                check(m.getParameterCount() <= 7, "too many parameters: " + m);
            }
            check(Modifier.isStatic(c.getModifiers()) && !Modifier.isPublic(c.getModifiers()), "class inside: " + c);
            int fields = 0;
            for (Field f : c.getDeclaredFields()) {
                fields += Modifier.isStatic(f.getModifiers()) ? 0 : 1;
            }
            check(fields <= 20, "too many fields: " + c);
        }
        check(type.getDeclaredClasses().length <= 12, "too many classes");
    }

    private static void source() throws Exception {
        Path path = Path.of(System.getProperty("source", "src/main/java/OfDifferentMinds.java"));
        String text = Files.readString(path);
        check(text.chars().allMatch(c -> c < 128), "signs beyond 127");
        String code = text.replaceAll("/\\*(?s:.*?)\\*/", "").replaceAll("//.*", "");
        for (String word : new String[] {"catch", "finally", "synchronized", "assert", "->", "::", "Exact", "package ", "Random",
            "System.currentTimeMillis", "System.nanoTime", "Thread", "while (true)", "for (;;)", "@"}) {
            check(!code.contains(word), "in the source: " + word);
        }
        Matcher imports = Pattern.compile("import ([^;]+);").matcher(code);
        while (imports.find()) {
            check(imports.group(1).equals("java.util.NoSuchElementException"), "import " + imports.group(1));
        }
        lengths(code.split("\n"));
    }

    /** Methods stay short, and rows are made in constructors alone. */
    private static void lengths(String[] lines) {
        Pattern head = Pattern.compile("^ {4,8}(?:public |private |static |final )*(?:(?:int|boolean|void) )?(\\w+)\\(.*\\{$");
        int start = -1;
        String indent = "";
        String name = "";
        for (int i = 0; i < lines.length; i++) {
            Matcher m = head.matcher(lines[i]);
            if (start < 0 && m.matches()) {
                start = i;
                name = m.group(1);
                indent = lines[i].substring(0, lines[i].length() - lines[i].stripLeading().length());
            } else if (start >= 0 && lines[i].equals(indent + "}")) {
                check(i - start <= 60, "long: " + name);
                start = -1;
            } else if (start >= 0 && lines[i].contains("new ") && !lines[i].contains("throw new")) {
                check(Character.isUpperCase(name.charAt(0)), name + " makes something");
            }
        }
        check(start < 0, "a method without an end");
    }

    /** Whatever the arguments and the state, nothing but the three named calls throws, and only what it says. */
    private static void anyArguments() throws Exception {
        Random random = new Random(7);
        int[] odd = {Integer.MIN_VALUE, Integer.MAX_VALUE, -1, -2, 0, 1, 2, 3, 5, 6, 9, 10, 11, 20, 31, 32, 33, 63, 64, 99, 100, 200};
        String[] texts = {"bc;cab!;a;-", "9:0000;3:1200;5:0110", "m10;r9;d;z1;x12", "abab", "a-b*s/(m-n)", "1:", "-"};
        for (int run = 0; run < 400; run++) {
            OfDifferentMinds x = new OfDifferentMinds();
            Method[] methods = OfDifferentMinds.class.getMethods();
            for (int i = 0; i < 500; i++) {
                Method m = methods[random.nextInt(methods.length)];
                if (m.getDeclaringClass() != OfDifferentMinds.class) {
                    continue;
                }
                if (m.getParameterCount() == 0 && random.nextInt(3) > 0) {
                    tell(x, texts[random.nextInt(texts.length)]);
                }
                Object[] args = new Object[m.getParameterCount()];
                for (int a = 0; a < args.length; a++) {
                    args[a] = random.nextBoolean() ? odd[random.nextInt(odd.length)] : random.nextInt(8) - 1;
                }
                try {
                    m.invoke(x, args);
                } catch (java.lang.reflect.InvocationTargetException e) {
                    boolean fine = e.getCause() instanceof NoSuchElementException && m.getExceptionTypes().length == 1;
                    check(fine, m.getName() + " throws " + e.getCause());
                }
            }
        }
    }

    private static void tell(OfDifferentMinds x, String text) {
        x.end(0);
        for (int i = 0; i < text.length(); i += 4) {
            int v = 0;
            for (int j = i; j < i + 4; j++) {
                v = v << 8 | (j < text.length() ? text.charAt(j) : 0);
            }
            x.sign(v);
        }
        x.end(text.length());
    }
}

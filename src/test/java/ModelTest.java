import java.lang.reflect.InvocationTargetException;
import java.lang.reflect.Method;
import java.util.ArrayList;
import java.util.List;
import java.util.Random;

/** Many runs of calls by fixed seeds: the class answers each call as the plain model does. */
public final class ModelTest {
    private static final String[] NAMES = {
        "place", "rider", "view", "sheet", "mount", "mount", "mount", "dismount", "dismount", "ride", "ride", "ride",
        "walk", "walk", "walk", "lead", "lead", "rest", "deal", "undo", "where", "stops", "trail", "reaches", "pairs",
        "changes", "stations", "foot", "record", "matches", "partner", "agree", "convinces", "claim", "lie", "fits",
        "views", "editions", "kinds", "county", "keep", "again", "count", "row", "end", "sign",
        "#roads", "#riders", "#riders", "#rule", "#rule", "#journey", "#journey", "#journey", "#prints", "#prints"};

    private final Random random;
    private final OfDifferentMinds real = new OfDifferentMinds();
    private final Model model = new Model();
    private final List<String> log = new ArrayList<>();
    private int wrong;

    private ModelTest(long seed) {
        random = new Random(seed);
    }

    public static void main(String[] args) throws Exception {
        int runs = args.length > 0 ? Integer.parseInt(args[0]) : 1500;
        long first = args.length > 1 ? Long.parseLong(args[1]) : 1;
        int wrong = 0;
        for (long seed = first; seed < first + runs && wrong < 5; seed++) {
            ModelTest test = new ModelTest(seed);
            test.run(120);
            if (test.wrong > 0) {
                wrong++;
                System.out.println("seed " + seed + ": " + String.join("\n  ", test.log));
            }
        }
        System.out.println(wrong == 0 ? "the class is as the model" : "the class is not as the model");
        if (wrong > 0) {
            System.exit(1);
        }
    }

    private void run(int calls) throws Exception {
        int start = random.nextInt(10);
        if (start > 0) {
            tell(roads());
            call("roads");
            tell(riders());
            call("riders");
        }
        for (int i = 0; i < calls && wrong == 0; i++) {
            String name = NAMES[random.nextInt(NAMES.length)];
            if (name.equals("#roads") && random.nextInt(12) != 0) {
                continue;
            }
            if (name.startsWith("#")) {
                tell(told(name));
                call(name.substring(1));
            } else {
                call(name);
            }
        }
    }

    private String told(String name) {
        String text;
        switch (name) {
            case "#roads": text = roads(); break;
            case "#riders": text = riders(); break;
            case "#rule": text = random.nextInt(4) == 0 ? "" : expression(random.nextInt(4), 0); break;
            case "#journey": text = journey(); break;
            default: text = trodden(1 + random.nextInt(random.nextInt(3) == 0 ? 24 : 4)); break;
        }
        return random.nextInt(5) == 0 ? spoilt(text) : text;
    }

    private String spoilt(String text) {
        StringBuilder b = new StringBuilder(text);
        String signs = "abcdefghijk0123456789;;::!!--+*/()<>=mdrwlzxpsn \u0000\u00ff";
        for (int i = random.nextInt(3); i >= 0; i--) {
            char sign = signs.charAt(random.nextInt(signs.length()));
            int at = random.nextInt(b.length() + 1);
            switch (random.nextInt(4)) {
                case 0: b.insert(at, sign); break;
                case 1: b.setLength(at); break;
                case 2: b.append(text); break;
                default:
                    if (at < b.length()) {
                        b.setCharAt(at, sign);
                    }
                    break;
            }
        }
        return b.toString();
    }

    /** Letters of places, mostly such as ways lead from one to the next. */
    private String trodden(int n) {
        StringBuilder b = new StringBuilder();
        int places = Math.max(1, model.count(0));
        int place = random.nextInt(places);
        for (int i = 0; i < n; i++) {
            b.append((char) ('a' + place));
            int ways = model.count(0) == 0 ? 0 : model.place(place, 0);
            place = ways == 0 || random.nextInt(30) == 0 ? random.nextInt(places)
                : model.place(place, 1 + random.nextInt(ways));
        }
        return b.toString();
    }

    private String roads() {
        int places = random.nextInt(6) == 0 ? 10 : 1 + random.nextInt(6);
        boolean rich = random.nextBoolean();
        StringBuilder b = new StringBuilder();
        for (int p = 0; p < places; p++) {
            b.append(p > 0 ? ";" : "");
            int ways = random.nextInt(rich ? 30 : 8) == 0 ? 0 : (rich ? 2 : 1) + random.nextInt(6);
            for (int w = 0; w < Math.min(3, ways); w++) {
                b.append((char) ('a' + random.nextInt(places)));
            }
            b.append(ways == 0 ? "-" : "");
            b.append(random.nextInt(2) == 0 ? "!" : "");
        }
        return b.toString();
    }

    private String riders() {
        StringBuilder b = new StringBuilder();
        int n = random.nextInt(5) == 0 ? 0 : 1 + random.nextInt(4);
        for (int i = 0; i < n; i++) {
            b.append(i > 0 ? ";" : "");
            b.append(1 + random.nextInt(random.nextInt(3) == 0 ? 99 : 4)).append(':');
            for (int p = 0; p < model.count(0); p++) {
                b.append(random.nextInt(3));
            }
        }
        return b.toString();
    }

    private String expression(int size, int depth) {
        if (size == 0) {
            return random.nextInt(3) == 0 ? "" + random.nextInt(1000) : "" + "abkpsmn".charAt(random.nextInt(7));
        }
        switch (random.nextInt(6)) {
            case 0: return "-" + expression(size - 1, depth);
            case 1: return "(" + expression(size - 1, depth + 1) + ")";
            case 2: return "(" + expression(size - 1, depth + 1) + "<=>".charAt(random.nextInt(3)) + expression(0, depth + 1) + ")";
            case 3: return expression(size - 1, depth) + "<=>".charAt(random.nextInt(3)) + expression(0, depth);
            default: return expression(size - 1, depth) + "+-*/".charAt(random.nextInt(4)) + expression(random.nextInt(size), depth);
        }
    }

    private String journey() {
        StringBuilder b = new StringBuilder();
        int n = random.nextInt(6);
        int riders = Math.max(1, model.count(1));
        for (int i = 0; i < n; i++) {
            b.append(i > 0 ? ";" : "");
            char kind = "mdrwlzx".charAt(random.nextInt(7));
            b.append(kind);
            if (kind == 'r') {
                b.append(random.nextInt(100));
            } else if (kind == 'z') {
                b.append(random.nextInt(riders));
            } else if (kind != 'd') {
                b.append(random.nextInt(riders)).append(random.nextInt(kind == 'w' || kind == 'l' ? 3 : riders));
            }
        }
        return b.toString();
    }

    private void tell(String text) throws Exception {
        both("end", 0);
        String cut = text.substring(0, Math.min(80, text.length()));
        for (int i = 0; i < cut.length(); i += 4) {
            int v = 0;
            for (int j = 0; j < 4; j++) {
                v = v << 8 | (i + j < cut.length() ? cut.charAt(i + j) : random.nextInt(256));
            }
            both("sign", v);
        }
        both("end", cut.length());
        log.add("text " + cut);
    }

    private void call(String name) throws Exception {
        for (Method m : Model.class.getDeclaredMethods()) {
            if (m.getName().equals(name) && java.lang.reflect.Modifier.isPublic(m.getModifiers())) {
                Object[] args = new Object[m.getParameterCount()];
                for (int i = 0; i < args.length; i++) {
                    args[i] = argument(name, i);
                }
                both(name, args);
            }
        }
        for (int what = 0; what <= 12 && wrong == 0; what++) {
            both("count", what);
        }
        for (int i = 0; i <= model.count(10) && wrong == 0; i++) {
            both("row", i);
        }
        for (int r = 0; r < model.count(1) && wrong == 0; r++) {
            for (int what = 0; what < 6; what++) {
                both("rider", r, what);
            }
        }
    }

    private int argument(String name, int i) {
        if (random.nextInt(60) == 0) {
            return random.nextInt();
        }
        switch (name) {
            case "sheet":
                return i == 0 ? random.nextInt(6) - 1 : i == 1 ? random.nextInt(10) - 2
                    : random.nextInt(3) == 0 ? random.nextInt() : random.nextInt(40) - 5;
            case "ride": return random.nextInt(3) == 0 ? random.nextInt(104) - 2 : random.nextInt(4);
            case "where": return random.nextInt(206) - 2;
            case "matches": case "editions": case "kinds":
                return i == 0 ? random.nextInt(1 << model.count(1)) + (random.nextInt(9) == 0 ? 1 : 0) : some(0);
            case "county": return i == 0 ? random.nextInt() : random.nextInt(63);
            case "keep": case "again": return random.nextInt(4) - 1;
            case "rider": case "place": return i == 0 ? some(name.equals("place") ? 0 : 1) : random.nextInt(8) - 1;
            case "walk": case "lead": return i == 0 ? some(1) : random.nextInt(5) - 1;
            case "claim": return i == 0 ? random.nextInt(4) - 1 : random.nextInt(5) - 1;
            case "lie": return i == 0 ? random.nextInt(4) - 1 : some(0);
            case "mount": return random.nextInt(4) == 0 ? some(1) : besideTheHorse();
            case "deal": case "agree": case "rest": return some(1);
            case "view": case "partner": return some(i == 0 ? 1 : 0);
            case "stops": case "trail": case "reaches": case "convinces": return some(i < 2 ? 1 : 0);
            case "sign": return random.nextInt();
            case "end": return random.nextInt(20) - 1;
            default: return some(0);
        }
    }

    private int besideTheHorse() {
        List<Integer> those = new ArrayList<>();
        for (int r = 0; r < model.count(1); r++) {
            if (model.rider(r, 2) == model.count(2)) {
                those.add(r);
            }
        }
        return those.isEmpty() ? 0 : those.get(random.nextInt(those.size()));
    }

    /** A place (0) or rider (1) that most often is there. */
    private int some(int what) {
        int n = model.count(what);
        return random.nextInt(15) == 0 ? n : random.nextInt(40) == 0 ? -1 : n == 0 ? 0 : random.nextInt(n);
    }

    private void both(String name, Object... args) throws Exception {
        String want = answer(Model.class, model, name, args);
        String got = answer(OfDifferentMinds.class, real, name, args);
        log.add(name + java.util.Arrays.toString(args) + " -> " + got);
        if (!want.equals(got)) {
            wrong++;
            log.add("wrong: the model has " + want);
        }
    }

    private static String answer(Class<?> type, Object object, String name, Object... args) throws Exception {
        Class<?>[] types = new Class<?>[args.length];
        java.util.Arrays.fill(types, int.class);
        try {
            return String.valueOf(type.getMethod(name, types).invoke(object, args));
        } catch (InvocationTargetException e) {
            return e.getCause().getClass().getName();
        }
    }
}

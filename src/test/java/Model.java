import java.util.ArrayList;
import java.util.Arrays;
import java.util.List;
import java.util.NoSuchElementException;
import java.util.TreeMap;
import java.util.regex.Matcher;
import java.util.regex.Pattern;

/**
 * The document once more, in its plainest form and by other means than the class: texts by regular
 * expressions, THE RULE by splitting its text anew at each STEP, states by whole copies.
 */
public final class Model {
    static final class Rider {
        int mind;
        int spent;
        int place;
        int by = -1;
        int[] map;

        Rider copy() {
            Rider r = new Rider();
            r.mind = mind;
            r.spent = spent;
            r.place = place;
            r.by = by;
            r.map = map.clone();
            return r;
        }
    }

    static final class World {
        List<Rider> riders = new ArrayList<>();
        int horse;
        int first = -1;
        int second = -1;
        int steps;

        World copy() {
            World w = new World();
            for (Rider r : riders) {
                w.riders.add(r.copy());
            }
            w.horse = horse;
            w.first = first;
            w.second = second;
            w.steps = steps;
            return w;
        }
    }

    private String text = "";
    private String[] lines = new String[0];
    private World world = new World();
    private String rule = "";
    private List<World> past = new ArrayList<>();
    private World[] kept = new World[2];
    private String prints = "";
    private List<Integer> row = new ArrayList<>();

    private static final Pattern ROADS = Pattern.compile("(?:-|[a-j]{1,3}+)!?+(?:;(?:-|[a-j]{1,3}+)!?+){0,9}+");
    private static final Pattern JOURNEY;
    private static final Pattern RULE;

    static {
        String act = "(?:[mwlx][0-9][0-9]|d|z[0-9]|r[0-9]{1,2}+)";
        JOURNEY = Pattern.compile("(?:" + act + "(?:;" + act + ")*+)?");
        String e = null;
        for (int depth = 0; depth <= 4; depth++) {
            String thing = "[0-9]{1,3}+|[abkpsmn]" + (e == null ? "" : "|\\(" + e + "\\)");
            String u = "-*+(?:" + thing + ")";
            String list = u + "(?:[-+*/]" + u + ")*+";
            e = "(?:" + list + "(?:[<>=]" + list + ")?+)";
        }
        RULE = Pattern.compile(e + "?");
    }

    private int tell(int answer, Integer... numbers) {
        row = new ArrayList<>(Arrays.asList(numbers));
        return answer;
    }

    /** The first place at which the text can't go on as the pattern wants, or -1. */
    private static int fault(Pattern pattern, String text, int most) {
        for (int p = 0; p < text.length(); p++) {
            if (p == most) {
                return most;
            }
            Matcher m = pattern.matcher(text.substring(0, p + 1));
            if (!m.matches() && !m.hitEnd()) {
                return p;
            }
        }
        return pattern.matcher(text).matches() ? -1 : text.length();
    }

    private String taken() {
        String t = text;
        text = "";
        return t;
    }

    // ---- the roads, the riders

    public int sign(int v) {
        if (text.length() + 4 > 80) {
            return -1;
        }
        text += "" + (char) (v >> 24 & 255) + (char) (v >> 16 & 255) + (char) (v >> 8 & 255) + (char) (v & 255);
        return text.length();
    }

    public boolean end(int n) {
        if (n < 0 || n > text.length()) {
            return false;
        }
        text = text.substring(0, n);
        return true;
    }

    public int roads() {
        String t = taken();
        int f = fault(ROADS, t, 76);
        if (f >= 0) {
            // the ; ahead of an eleventh line may stand, its first sign may not
            return -1 - (f > 0 && f < t.length() && t.charAt(f) == ';' && tenLines(t.substring(0, f)) ? f + 1 : f);
        }
        String[] told = t.split(";", -1);
        for (int p = 0; p < t.length(); p++) {
            if (Character.isLetter(t.charAt(p)) && t.charAt(p) - 'a' >= told.length) {
                return -1 - p;
            }
        }
        lines = told;
        world = new World();
        past.clear();
        kept = new World[2];
        prints = "";
        return lines.length;
    }

    private static boolean tenLines(String t) {
        return ROADS.matcher(t).matches() && t.split(";", -1).length == 10;
    }

    public int riders() {
        String t = taken();
        if (t.isEmpty()) {
            return 0;
        }
        int room = 6 - world.riders.size();
        if (room == 0) {
            return -1;
        }
        String line = "(?:0?[1-9]|[1-9][0-9]):[0-2]{" + lines.length + "}";
        Pattern pattern = Pattern.compile(line + "(?:;" + line + "){0," + (room - 1) + "}");
        int f = fault(pattern, t, 76);
        if (f >= 0) {
            return -1 - riderFault(t, f, room);
        }
        for (String l : t.split(";")) {
            Rider r = new Rider();
            String[] halves = l.split(":", -1);
            r.mind = Integer.parseInt(halves[0]);
            r.map = new int[lines.length];
            for (int i = 0; i < lines.length; i++) {
                r.map[i] = halves[1].charAt(i) - '0';
            }
            world.riders.add(r);
        }
        past.clear();
        kept = new World[2];
        return t.split(";").length;
    }

    private int riderFault(String t, int f, int room) {
        String ahead = t.substring(0, f);
        boolean lone = ahead.equals("0") || ahead.endsWith(";0");
        boolean second = f < t.length() && t.charAt(f) == '0';
        if (lone && !second) {
            return f - 1;
        }
        boolean full = f < t.length() && t.charAt(f) == ';' && ahead.split(";", -1).length == room;
        boolean complete = ahead.substring(ahead.lastIndexOf(';') + 1).matches("[0-9]{1,2}:[0-2]{" + lines.length + "}");
        return f < 76 && full && complete ? f + 1 : f;
    }

    public int rule() {
        String t = taken();
        int f = fault(RULE, t, 40);
        if (f >= 0) {
            return -1 - f;
        }
        rule = t;
        return 0;
    }

    private String ways(int place) {
        return place < 0 || place >= lines.length ? "" : lines[place].replace("!", "").replace("-", "");
    }

    private int k(int place) {
        return ways(place).length();
    }

    private int leads(int place, int way) {
        return ways(place).charAt(way) - 'a';
    }

    private boolean inn(int place) {
        return isPlace(place) && lines[place].endsWith("!");
    }

    private boolean isPlace(int place) {
        return place >= 0 && place < lines.length;
    }

    private boolean isRider(int rider) {
        return rider >= 0 && rider < world.riders.size();
    }

    private boolean two(int one, int other) {
        return isRider(one) && isRider(other) && one != other;
    }

    private boolean up(int rider) {
        return rider == world.first || rider == world.second;
    }

    /** The view, or -1 without ways. */
    private int see(World w, int rider, int place) {
        if (k(place) == 0) {
            return -1;
        }
        int by = w.riders.get(rider).by;
        return w.riders.get(by >= 0 ? by : rider).map[place] % k(place);
    }

    public int place(int place, int what) {
        if (!isPlace(place)) {
            throw new NoSuchElementException();
        }
        switch (what) {
            case 0: return k(place);
            case 1: case 2: case 3: return what - 1 < k(place) ? leads(place, what - 1) : -1;
            case 4: return inn(place) ? 1 : 0;
            case 5: {
                int bits = 0;
                for (int r = 0; r < world.riders.size(); r++) {
                    bits |= world.riders.get(r).place == place ? 1 << r : 0;
                }
                return bits;
            }
            default: throw new NoSuchElementException();
        }
    }

    public int rider(int rider, int what) {
        if (!isRider(rider)) {
            throw new NoSuchElementException();
        }
        Rider r = world.riders.get(rider);
        switch (what) {
            case 0: return r.mind;
            case 1: return r.spent;
            case 2: return r.place;
            case 3: return r.by;
            case 4: return see(world, rider, r.place);
            case 5: return up(rider) ? 1 : 0;
            default: throw new NoSuchElementException();
        }
    }

    public int view(int rider, int place) {
        if (!isRider(rider) || !isPlace(place)) {
            return -1;
        }
        return k(place) == 0 ? -2 : see(world, rider, place);
    }

    private void limit() {
        for (Rider r : world.riders) {
            r.spent = Math.min(r.spent, r.mind);
        }
    }

    public int sheet(int kind, int n, int f, int step) {
        if (kind < 0 || kind > 3 || n > 6) {
            return -1;
        }
        if (kind < 3 && n < 0) {
            return -2;
        }
        int sum = 0;
        int entry = f;
        for (int i = 0; i < world.riders.size(); i++) {
            int e = kind == 0 ? (byte) entry : kind == 1 ? (short) entry : entry;
            int mind = kind == 3 || i >= n ? 1 : e < 1 ? 1 : e > 99 ? 99 : e;
            world.riders.get(i).mind = mind;
            sum += mind;
            entry += step;
        }
        limit();
        return kind == 3 ? -3 : sum;
    }

    // ---- rides

    private int done(World before, int answer) {
        if (answer >= 0) {
            push(before);
        }
        return answer;
    }

    private void push(World before) {
        past.add(before);
        if (past.size() > 12) {
            past.remove(0);
        }
    }

    public int mount(int first, int second) {
        World before = world.copy();
        return done(before, doMount(first, second));
    }

    private int doMount(int first, int second) {
        if (!two(first, second)) {
            return -1;
        }
        if (world.first >= 0) {
            return -2;
        }
        if (world.riders.get(first).place != world.horse || world.riders.get(second).place != world.horse) {
            return -3;
        }
        world.first = first;
        world.second = second;
        world.steps = 0;
        return see(world, first, world.horse) == see(world, second, world.horse) ? 0 : 1;
    }

    public int dismount() {
        World before = world.copy();
        return done(before, doDismount());
    }

    private int doDismount() {
        if (world.first < 0) {
            return -2;
        }
        world.first = -1;
        world.second = -1;
        world.steps = 0;
        return world.horse;
    }

    private static int lastBinary(String e, String signs) {
        int depth = 0;
        int found = -1;
        for (int i = 0; i < e.length(); i++) {
            char c = e.charAt(i);
            depth += c == '(' ? 1 : c == ')' ? -1 : 0;
            boolean binary = i > 0 && (Character.isLetterOrDigit(e.charAt(i - 1)) || e.charAt(i - 1) == ')');
            if (depth == 0 && binary && signs.indexOf(c) >= 0) {
                found = i;
            }
        }
        return found;
    }

    static int value(String e, int[] abkpsmn) {
        for (String signs : new String[] {"<>=", "+-", "*/"}) {
            int at = lastBinary(e, signs);
            if (at >= 0) {
                int x = value(e.substring(0, at), abkpsmn);
                int y = value(e.substring(at + 1), abkpsmn);
                switch (e.charAt(at)) {
                    case '<': return x < y ? 1 : 0;
                    case '>': return x > y ? 1 : 0;
                    case '=': return x == y ? 1 : 0;
                    case '+': return x + y;
                    case '-': return x - y;
                    case '*': return x * y;
                    default: return y == 0 ? 0 : x / y;
                }
            }
        }
        if (e.charAt(0) == '-') {
            return -value(e.substring(1), abkpsmn);
        }
        if (e.charAt(0) == '(') {
            return value(e.substring(1, e.length() - 1), abkpsmn);
        }
        int thing = "abkpsmn".indexOf(e.charAt(0));
        return thing >= 0 ? abkpsmn[thing] : Integer.parseInt(e);
    }

    private int wayFor(int a, int b, int k, int p, int s, int m, int n) {
        String e = rule.isEmpty() ? "k-a-b+(k=2)*a" : rule;
        return Math.floorMod(value(e, new int[] {a, b, k, p, s, m, n}), k);
    }

    private static int left(World w, int rider) {
        return w.riders.get(rider).mind - w.riders.get(rider).spent;
    }

    private boolean halted(World w) {
        return k(w.horse) == 0 || see(w, w.first, w.horse) == see(w, w.second, w.horse);
    }

    /** One step, if it does not stop; who was convinced by it is told in news[0]. */
    private boolean step(World w, int[] news) {
        if (halted(w)) {
            return false;
        }
        goBy(w, see(w, w.first, w.horse), see(w, w.second, w.horse), news);
        return true;
    }

    private void goBy(World w, int a, int b, int[] news) {
        int way = wayFor(a, b, k(w.horse), w.horse, w.steps, left(w, w.first), left(w, w.second));
        w.horse = leads(w.horse, way);
        w.riders.get(w.first).place = w.horse;
        w.riders.get(w.second).place = w.horse;
        w.steps++;
        boolean firstHasLess = left(w, w.first) < left(w, w.second);
        int loser = firstHasLess ? w.first : w.second;
        Rider r = w.riders.get(loser);
        if (r.by < 0) {
            r.spent = Math.min(r.spent + 1, r.mind);
            if (r.spent == r.mind) {
                r.by = firstHasLess ? w.second : w.first;
                news[0] = loser;
            }
        }
    }

    public int ride(int n) {
        World before = world.copy();
        int[] news = {-1};
        int steps = doRide(n, news);
        if (steps > 0) {
            push(before);
        }
        return steps < 0 ? steps : tell(steps, world.horse, steps < n ? 1 : 0, news[0]);
    }

    private int doRide(int n, int[] news) {
        if (n < 0 || n > 99) {
            return -1;
        }
        if (world.first < 0) {
            return -2;
        }
        int steps = 0;
        while (steps < n && step(world, news)) {
            steps++;
        }
        return steps;
    }

    public int walk(int rider, int way) {
        World before = world.copy();
        return done(before, doWalk(rider, way));
    }

    private int doWalk(int rider, int way) {
        if (!isRider(rider)) {
            return -1;
        }
        if (up(rider)) {
            return -2;
        }
        Rider r = world.riders.get(rider);
        if (way < 0 || way >= k(r.place)) {
            return -3;
        }
        r.place = leads(r.place, way);
        return r.place;
    }

    public int lead(int rider, int way) {
        World before = world.copy();
        return done(before, doLead(rider, way));
    }

    private int doLead(int rider, int way) {
        if (!isRider(rider)) {
            return -1;
        }
        if (world.first >= 0) {
            return -2;
        }
        if (way < 0 || way >= k(world.horse)) {
            return -3;
        }
        if (world.riders.get(rider).place != world.horse) {
            return -4;
        }
        world.horse = leads(world.horse, way);
        world.riders.get(rider).place = world.horse;
        return world.horse;
    }

    public int rest(int rider) {
        World before = world.copy();
        return done(before, doRest(rider));
    }

    private int doRest(int rider) {
        if (!isRider(rider)) {
            return -1;
        }
        Rider r = world.riders.get(rider);
        if (up(rider) || !inn(r.place)) {
            return -2;
        }
        int had = r.spent;
        r.spent = 0;
        r.by = -1;
        return had;
    }

    public int deal(int one, int other) {
        World before = world.copy();
        return done(before, doDeal(one, other));
    }

    private int doDeal(int one, int other) {
        if (!two(one, other)) {
            return -1;
        }
        Rider r = world.riders.get(one);
        Rider q = world.riders.get(other);
        if (r.place != q.place || !inn(r.place) || up(one) || up(other)) {
            return -2;
        }
        int unlike = 0;
        for (int i = 0; i < lines.length; i++) {
            unlike += r.map[i] == q.map[i] ? 0 : 1;
        }
        int[] map = r.map;
        r.map = q.map;
        q.map = map;
        return unlike;
    }

    public int journey() {
        String t = taken();
        int f = fault(JOURNEY, t, 60);
        if (f >= 0) {
            return -1 - f;
        }
        World before = world.copy();
        int acts = 0;
        int steps = 0;
        for (String act : t.isEmpty() ? new String[0] : t.split(";")) {
            int one = act.length() > 1 ? act.charAt(1) - '0' : 0;
            int other = act.length() > 2 ? act.charAt(2) - '0' : 0;
            int answer;
            switch (act.charAt(0)) {
                case 'm': answer = doMount(one, other); break;
                case 'd': answer = doDismount(); break;
                case 'r': answer = doRide(Integer.parseInt(act.substring(1)), new int[1]); break;
                case 'w': answer = doWalk(one, other); break;
                case 'l': answer = doLead(one, other); break;
                case 'z': answer = doRest(one); break;
                default: answer = doDeal(one, other); break;
            }
            if (answer < 0) {
                if (acts > 0) {
                    push(before);
                }
                return tell(acts, 1, steps);
            }
            acts++;
            steps += act.charAt(0) == 'r' ? answer : 0;
        }
        if (acts > 0) {
            push(before);
        }
        return tell(acts, 0, steps);
    }

    /** The minds are no part of what is undone or kept. */
    private void restore(World from) {
        World was = world;
        world = from.copy();
        for (int i = 0; i < was.riders.size(); i++) {
            world.riders.get(i).mind = was.riders.get(i).mind;
        }
        limit();
    }

    public int undo() {
        if (past.isEmpty()) {
            return -1;
        }
        restore(past.remove(past.size() - 1));
        return past.size();
    }

    // ---- rides to come

    public int where(int n) {
        if (n < 0 || n > 200) {
            return -1;
        }
        if (world.first < 0) {
            return tell(world.horse, 0, 1);
        }
        World w = world.copy();
        int steps = 0;
        while (steps < n && step(w, new int[1])) {
            steps++;
        }
        return tell(w.horse, steps, steps < n ? 1 : 0);
    }

    private World anew(int first, int second, int from) {
        World w = world.copy();
        w.first = first;
        w.second = second;
        w.horse = from;
        w.steps = 0;
        return w;
    }

    private World fresh(int first, int second, int from) {
        World w = anew(first, second, from);
        for (Rider r : w.riders) {
            r.spent = 0;
            r.by = -1;
        }
        return w;
    }

    /** Places of a ride from its first on, 201 at most. */
    private List<Integer> path(World w, int[] news) {
        List<Integer> places = new ArrayList<>();
        places.add(w.horse);
        while (places.size() <= 200 && step(w, news)) {
            places.add(w.horse);
        }
        return places;
    }

    public int stops(int first, int second, int from) {
        if (!two(first, second) || !isPlace(from)) {
            return -1;
        }
        World w = anew(first, second, from);
        int[] news = {-1};
        int steps = path(w, news).size() - 1;
        if (!halted(w)) {
            return tell(-2, w.horse);
        }
        return tell(steps, w.horse, k(w.horse) == 0 ? 0 : 1, news[0]);
    }

    public int trail(int first, int second, int from) {
        if (!two(first, second) || !isPlace(from)) {
            return -1;
        }
        TreeMap<Integer, Integer> times = new TreeMap<>();
        List<Integer> path = path(anew(first, second, from), new int[1]);
        int bits = 0;
        for (int p : path) {
            times.merge(p, 1, Integer::sum);
            bits |= 1 << p;
        }
        int most = 0;
        for (int t : times.values()) {
            most = Math.max(most, t);
        }
        for (int p : times.keySet()) {
            if (times.get(p) == most) {
                return tell(bits, path.size() - 1, most, p);
            }
        }
        throw new AssertionError();
    }

    public int reaches(int first, int second, int from, int to) {
        if (!two(first, second) || !isPlace(from) || !isPlace(to)) {
            return -1;
        }
        int at = path(anew(first, second, from), new int[1]).indexOf(to);
        return at < 0 ? -2 : at;
    }

    private List<int[]> allPairs() {
        List<int[]> all = new ArrayList<>();
        for (int a = 0; a < world.riders.size(); a++) {
            for (int b = 0; b < world.riders.size(); b++) {
                if (a != b) {
                    all.add(new int[] {a, b});
                }
            }
        }
        return all;
    }

    public int pairs(int from, int to) {
        if (!isPlace(from) || !isPlace(to)) {
            return -1;
        }
        row = new ArrayList<>();
        int found = 0;
        for (int[] pair : allPairs()) {
            World w = anew(pair[0], pair[1], from);
            int steps = path(w, new int[1]).size() - 1;
            if (halted(w) && w.horse == to) {
                found++;
                if (row.isEmpty() || steps < row.get(2)) {
                    tell(0, pair[0], pair[1], steps);
                }
            }
        }
        return found;
    }

    private static int compare(List<Integer> x, List<Integer> y) {
        for (int i = 0; i < Math.min(x.size(), y.size()); i++) {
            if (!x.get(i).equals(y.get(i))) {
                return Integer.compare(x.get(i), y.get(i));
            }
        }
        return Integer.compare(x.size(), y.size());
    }

    private static void offer(TreeMap<Integer, List<Integer>> at, int place, List<Integer> way) {
        if (!at.containsKey(place) || compare(way, at.get(place)) < 0) {
            at.put(place, way);
        }
    }

    private int endOf(int[] pair, int from) {
        World w = fresh(pair[0], pair[1], from);
        path(w, new int[1]);
        return w.horse;
    }

    public int changes(int from, int to) {
        if (!isPlace(from) || !isPlace(to)) {
            return -1;
        }
        TreeMap<Integer, List<Integer>> level = new TreeMap<>();
        level.put(from, new ArrayList<>());
        for (int rides = 0; rides <= 10; rides++) {
            if (level.containsKey(to)) {
                List<Integer> all = level.get(to);
                row = new ArrayList<>(all.subList(0, Math.min(10, all.size())));
                return rides;
            }
            TreeMap<Integer, List<Integer>> next = new TreeMap<>();
            for (int place : level.keySet()) {
                if (place == from || inn(place)) {
                    for (int[] pair : allPairs()) {
                        List<Integer> more = new ArrayList<>(level.get(place));
                        more.add(pair[0]);
                        more.add(pair[1]);
                        offer(next, endOf(pair, place), more);
                    }
                }
            }
            level = next;
        }
        return -2;
    }

    public int stations(int from) {
        if (!isPlace(from)) {
            return -1;
        }
        List<Integer> starts = new ArrayList<>();
        starts.add(from);
        int bits = 0;
        for (int i = 0; i < starts.size(); i++) {
            for (int[] pair : allPairs()) {
                int end = endOf(pair, starts.get(i));
                bits |= 1 << end;
                if (inn(end) && !starts.contains(end)) {
                    starts.add(end);
                }
            }
        }
        int others = 0;
        for (int p = 0; p < lines.length; p++) {
            others |= (bits >> p & 1) != 0 && !inn(p) ? 1 << p : 0;
        }
        return tell(bits, others);
    }

    // ---- who with whom

    public int foot(int from, int to) {
        if (!isPlace(from) || !isPlace(to)) {
            return -1;
        }
        TreeMap<Integer, List<Integer>> level = new TreeMap<>();
        level.put(from, new ArrayList<>());
        for (int ways = 0; ways <= 10; ways++) {
            if (level.containsKey(to)) {
                row = level.get(to);
                return ways;
            }
            TreeMap<Integer, List<Integer>> next = new TreeMap<>();
            for (int place : level.keySet()) {
                for (int way = 0; way < k(place); way++) {
                    List<Integer> more = new ArrayList<>(level.get(place));
                    more.add(way);
                    offer(next, leads(place, way), more);
                }
            }
            level = next;
        }
        return -2;
    }

    private int far(int first, int second, int from) {
        return path(anew(first, second, from), new int[1]).size() - 1;
    }

    public int record(int from) {
        if (!isPlace(from)) {
            return -1;
        }
        if (world.riders.size() < 2) {
            return -2;
        }
        int most = -1;
        int as = 0;
        int[] best = null;
        for (int[] pair : allPairs()) {
            int steps = far(pair[0], pair[1], from);
            if (steps > most) {
                most = steps;
                best = pair;
                as = 0;
            }
            as += steps == most ? 1 : 0;
        }
        return tell(most, best[0], best[1], as);
    }

    private void partings(List<Integer> rest, Integer[] with, List<Integer[]> all) {
        if (rest.size() < 2) {
            all.add(with.clone());
            return;
        }
        for (int i = 0; i < rest.size(); i++) {
            for (int j = i + 1; j < rest.size(); j++) {
                List<Integer> others = new ArrayList<>(rest);
                Integer b = others.remove(j);
                Integer a = others.remove(i);
                with[a] = b;
                with[b] = a;
                partings(others, with, all);
                with[a] = -1;
                with[b] = -1;
            }
        }
    }

    private List<Integer> toldOnes(int those) {
        List<Integer> told = new ArrayList<>();
        for (int r = 0; r < world.riders.size(); r++) {
            if ((those >> r & 1) != 0) {
                told.add(r);
            }
        }
        return told;
    }

    private boolean areTold(int those) {
        return those >> world.riders.size() == 0;
    }

    public int matches(int those, int from) {
        if (!areTold(those) || !isPlace(from)) {
            return -1;
        }
        int n = world.riders.size();
        int[][] far = new int[n][n];
        for (int a : toldOnes(those)) {
            for (int b : toldOnes(those)) {
                far[a][b] = a < b ? far(a, b, from) : 0;
            }
        }
        Integer[] with = new Integer[n];
        Arrays.fill(with, -1);
        List<Integer[]> all = new ArrayList<>();
        partings(toldOnes(those), with, all);
        int most = -1;
        for (Integer[] parting : all) {
            int sum = 0;
            for (int a = 0; a < n; a++) {
                sum += parting[a] > a ? far[a][parting[a]] : 0;
            }
            if (sum > most || sum == most && compare(Arrays.asList(parting), row) < 0) {
                most = sum;
                tell(0, parting);
            }
        }
        return most;
    }

    public int partner(int rider, int from) {
        if (!isRider(rider) || !isPlace(from)) {
            return -1;
        }
        int most = -1;
        int best = -2;
        for (int other = world.riders.size() - 1; other >= 0; other--) {
            if (other != rider && far(rider, other, from) >= most) {
                most = far(rider, other, from);
                best = other;
            }
        }
        return best < 0 ? -2 : tell(best, most);
    }

    public int agree(int one, int other) {
        if (!two(one, other)) {
            return -1;
        }
        int bits = 0;
        for (int p = 0; p < lines.length; p++) {
            bits |= k(p) == 0 || see(world, one, p) == see(world, other, p) ? 1 << p : 0;
        }
        return tell(bits, Integer.bitCount(bits));
    }

    // ---- arguments, lies

    public int convinces(int first, int second, int from) {
        if (!two(first, second) || !isPlace(from)) {
            return -1;
        }
        World w = anew(first, second, from);
        int[] news = {-1};
        for (int steps = 1; steps <= 200 && step(w, news); steps++) {
            if (news[0] >= 0) {
                return tell(news[0], steps, left(w, news[0] == first ? second : first));
            }
        }
        return -2;
    }

    public int claim(int which, int way) {
        if (which != 0 && which != 1) {
            return -1;
        }
        if (world.first < 0 || way < 0 || way >= k(world.horse)) {
            return -2;
        }
        int other = see(world, which == 0 ? world.second : world.first, world.horse);
        int bits = 0;
        for (int v = 0; v < k(world.horse); v++) {
            int a = which == 0 ? v : other;
            int b = which == 0 ? other : v;
            int goes = wayFor(a, b, k(world.horse), world.horse, world.steps, left(world, world.first),
                left(world, world.second));
            bits |= v != other && goes == way ? 1 << v : 0;
        }
        return bits;
    }

    public int lie(int which, int to) {
        if (which != 0 && which != 1 || !isPlace(to)) {
            return -1;
        }
        if (world.first < 0) {
            return -2;
        }
        int other = k(world.horse) == 0 ? 0 : see(world, which == 0 ? world.second : world.first, world.horse);
        int best = -2;
        int fewest = 1000;
        for (int v = k(world.horse) - 1; v >= 0; v--) {
            if (v != other) {
                World w = world.copy();
                goBy(w, which == 0 ? v : other, which == 0 ? other : v, new int[1]);
                int steps = 1;
                while (w.horse != to && steps < 200 && step(w, new int[1])) {
                    steps++;
                }
                if (w.horse == to && steps <= fewest) {
                    fewest = steps;
                    best = v;
                }
            }
        }
        return best < 0 ? -2 : tell(best, fewest);
    }

    // ---- prints

    public int prints() {
        String t = taken();
        for (int p = 0; p < t.length(); p++) {
            if (p == 20 || t.charAt(p) < 'a' || t.charAt(p) - 'a' >= lines.length) {
                return -1 - p;
            }
        }
        if (t.isEmpty()) {
            return -1;
        }
        prints = t;
        return t.length();
    }

    public int fits() {
        if (prints.isEmpty()) {
            return -2;
        }
        int found = 0;
        row = new ArrayList<>();
        for (int[] pair : allPairs()) {
            StringBuilder left = new StringBuilder();
            for (int p : path(anew(pair[0], pair[1], prints.charAt(0) - 'a'), new int[1])) {
                left.append((char) ('a' + p));
            }
            if (left.toString().startsWith(prints)) {
                if (found++ == 0) {
                    tell(0, pair[0], pair[1]);
                }
            }
        }
        return found;
    }

    public int views() {
        if (prints.isEmpty()) {
            return -2;
        }
        List<Integer> all = new ArrayList<>();
        for (int i = 0; i + 1 < prints.length(); i++) {
            int p = prints.charAt(i) - 'a';
            int found = 0;
            for (int a = 0; a < k(p); a++) {
                for (int b = 0; b < k(p); b++) {
                    if (a != b && leads(p, wayFor(a, b, k(p), p, i, 9, 9)) == prints.charAt(i + 1) - 'a') {
                        found++;
                    }
                }
            }
            if (found > 0) {
                all.add(found);
            }
        }
        row = new ArrayList<>(all.subList(0, Math.min(15, all.size())));
        return all.size();
    }

    public int editions(int those) {
        if (!areTold(those)) {
            return -1;
        }
        List<String> seen = new ArrayList<>();
        row = new ArrayList<>();
        for (int r : toldOnes(those)) {
            String map = Arrays.toString(world.riders.get(r).map);
            if (!seen.contains(map)) {
                seen.add(map);
            }
            row.add(seen.indexOf(map));
        }
        return seen.size();
    }

    public int kinds(int those, int place) {
        if (!areTold(those) || !isPlace(place)) {
            return -1;
        }
        TreeMap<Integer, Integer> holders = new TreeMap<>();
        for (int r : toldOnes(those)) {
            if (k(place) > 0) {
                holders.merge(see(world, r, place), 1, Integer::sum);
            }
        }
        int best = -1;
        for (int v : holders.keySet()) {
            best = best < 0 || holders.get(v) > holders.get(best) ? v : best;
        }
        return tell(holders.size(), best, best < 0 ? 0 : holders.get(best));
    }

    // ---- a county

    public int county(int seed, int n) {
        if (n < 1 || n > 60) {
            return -1;
        }
        int size = world.riders.size();
        if (size < 2) {
            return -2;
        }
        int r = seed;
        int place = world.horse;
        int all = 0;
        int idle = 0;
        int[] rode = new int[size];
        for (int i = 0; i < n; i++) {
            r = r * 1103515245 + 12345;
            int first = (int) (Integer.toUnsignedLong(r) / 65536 % size);
            r = r * 1103515245 + 12345;
            int second = (int) (Integer.toUnsignedLong(r) / 65536 % size);
            if (first == second) {
                second = (second + 1) % size;
            }
            World w = fresh(first, second, place);
            int steps = 0;
            while (steps < 20 && step(w, new int[1])) {
                steps++;
            }
            place = w.horse;
            all += steps;
            idle += steps == 0 ? 1 : 0;
            rode[first] += steps;
            rode[second] += steps;
        }
        int most = -1;
        for (int i = size - 1; i >= 0; i--) {
            most = rode[i] > 0 && (most < 0 || rode[i] >= rode[most]) ? i : most;
        }
        return tell(all, place, most, idle);
    }

    // ---- kept

    public boolean keep(int i) {
        if (i != 0 && i != 1) {
            return false;
        }
        kept[i] = world.copy();
        return true;
    }

    public boolean again(int i) {
        if (i != 0 && i != 1 || kept[i] == null) {
            return false;
        }
        restore(kept[i]);
        past.clear();
        return true;
    }

    public int count(int what) {
        int bits = 0;
        switch (what) {
            case 0: return lines.length;
            case 1: return world.riders.size();
            case 2: return world.horse;
            case 3: return world.first;
            case 4: return world.second;
            case 5: return world.steps;
            case 6:
                for (int i = 0; i < world.riders.size(); i++) {
                    bits |= world.riders.get(i).by >= 0 ? 1 << i : 0;
                }
                return bits;
            case 7:
                for (int i = 0; i < lines.length; i++) {
                    bits |= inn(i) ? 1 << i : 0;
                }
                return bits;
            case 8: return prints.length();
            case 9: return past.size();
            case 10: return row.size();
            case 11: return text.length();
            default: return -100;
        }
    }

    public int row(int i) {
        if (i < 0 || i >= row.size()) {
            throw new NoSuchElementException();
        }
        return row.get(i);
    }
}

import java.util.NoSuchElementException;

/**
 * A horse that goes only with two on it who disagree about the way. The document's words are kept
 * as names: PLACES, WAYS, RIDERS, MIND, VIEWS, STEPS, the ROW, THE TEXT.
 */
public final class OfDifferentMinds {
    public static final int NONE = -1;

    private static final int NOT_NOW = -2;
    private static final int NO_WAY = -3;
    private static final int NOT_BESIDE = -3;
    private static final int MISSING = -3;
    private static final int ELSEWHERE = -4;
    private static final int NO_COUNT = -100;

    private static final int MOST_PLACES = 10;
    private static final int MOST_WAYS = 3;
    private static final int MOST_RIDERS = 6;
    private static final int MOST_MIND = 99;
    private static final int MOST_SIGNS = 80;
    private static final int LAND_SIGNS = 76;
    private static final int RULE_SIGNS = 40;
    private static final int JOURNEY_SIGNS = 60;
    private static final int MOST_PRINTS = 20;
    private static final int MOST_RIDE = 99;
    private static final int LOOK_ON = 200;
    private static final int COUNTY_RIDES = 60;
    private static final int COUNTY_STEPS = 20;
    private static final int MOST_UNDONE = 12;
    private static final int MOST_KEPT = 2;
    private static final int MOST_TOLD_RIDES = 5;
    private static final int MOST_TOLD_PRINTS = 15;
    private static final int PRINT_MIND = 9;

    private final Text text;
    private final Land land;
    private final Rule rule;
    private final Standing now;
    private final History history;
    private final Row told;
    private final Ride trial;
    private final Atlas atlas;
    private final Matching matching;
    private final int[] print;
    private final int[] ridden;
    private final int[] visits;
    private int printed;
    private int drawn;

    public OfDifferentMinds() {
        text = new Text();
        land = new Land();
        rule = new Rule();
        now = new Standing();
        history = new History();
        told = new Row();
        trial = new Ride(land, rule, now);
        atlas = new Atlas(land, trial);
        matching = new Matching();
        print = new int[MOST_PRINTS];
        ridden = new int[MOST_RIDERS];
        visits = new int[MOST_PLACES];
    }

    // ---- the roads, the riders

    public int sign(int v) {
        return text.add(v);
    }

    public boolean end(int n) {
        return text.cut(n);
    }

    public int roads() {
        int fault = Grammar.inRoads(text);
        if (fault == NONE) {
            land.lay(text);
            now.clear();
            history.forgetAll();
            printed = 0;
        }
        text.clear();
        return fault == NONE ? land.places() : -1 - fault;
    }

    public int riders() {
        if (text.length() == 0) {
            return 0;
        }
        int fault = Grammar.inRiders(text, land.places(), MOST_RIDERS - land.riderCount());
        int lines = fault == NONE ? admitAll() : 0;
        text.clear();
        return fault == NONE ? lines : -1 - fault;
    }

    private int admitAll() {
        int lines = 0;
        text.open(LAND_SIGNS);
        for (int i = 0; i < MOST_RIDERS && !text.isOver(); i++) {
            int mind = text.number(2);
            text.take(':');
            int map = 0;
            for (int place = 0; place < land.places(); place++) {
                map = map | Math.max(0, text.number(1)) << 2 * place;
            }
            text.take(';');
            now.admit(land.riderCount(), map);
            land.admit(mind);
            lines++;
        }
        history.forgetAll();
        return lines;
    }

    public int rule() {
        int fault = rule.read(text);
        text.clear();
        return fault == NONE ? 0 : -1 - fault;
    }

    public int place(int place, int what) throws NoSuchElementException {
        if (!land.hasPlace(place) || what < 0 || what > 5) {
            throw new NoSuchElementException("no such place");
        }
        switch (what) {
            case 0:
                return land.waysAt(place);
            case 4:
                return land.isInn(place) ? 1 : 0;
            case 5:
                return ridersAt(place);
            default:
                return land.leadsTo(place, what - 1);
        }
    }

    private int ridersAt(int place) {
        int those = 0;
        for (int rider = 0; rider < land.riderCount(); rider++) {
            if (now.placeOf(rider) == place) {
                those = those | 1 << rider;
            }
        }
        return those;
    }

    public int rider(int rider, int what) throws NoSuchElementException {
        if (!land.hasRider(rider) || what < 0 || what > 5) {
            throw new NoSuchElementException("no such rider");
        }
        switch (what) {
            case 0:
                return land.mindOf(rider);
            case 1:
                return now.spentOf(rider);
            case 2:
                return now.placeOf(rider);
            case 3:
                return now.convincerOf(rider);
            case 4:
                return viewAt(rider, now.placeOf(rider));
            default:
                return now.isUp(rider) ? 1 : 0;
        }
    }

    /** The VIEW of a RIDER at a PLACE, or NONE where there are no WAYS. */
    private int viewAt(int rider, int place) {
        return land.viewOf(now.guidingMap(rider), place);
    }

    public int view(int rider, int place) {
        if (!land.hasRider(rider) || !land.hasPlace(place)) {
            return NONE;
        }
        return land.waysAt(place) == 0 ? NOT_NOW : viewAt(rider, place);
    }

    public int sheet(int kind, int n, int f, int step) {
        if (kind < 0 || kind > 3 || n > MOST_RIDERS) {
            return NONE;
        }
        if (kind != 3 && n < 0) {
            return NOT_NOW;
        }
        int entries = kind == 3 ? 0 : n;
        int sum = 0;
        for (int rider = 0; rider < land.riderCount(); rider++) {
            int mind = rider < entries ? entryMind(kind, f + rider * step) : 1;
            land.setMind(rider, mind);
            sum = sum + mind;
        }
        limitSpent();
        return kind == 3 ? MISSING : sum;
    }

    private static int entryMind(int kind, int entry) {
        int value = entry;
        if (kind == 0) {
            value = (byte) entry;
        } else if (kind == 1) {
            value = (short) entry;
        }
        return Math.max(1, Math.min(MOST_MIND, value));
    }

    private void limitSpent() {
        for (int rider = 0; rider < land.riderCount(); rider++) {
            now.setSpent(rider, Math.min(now.spentOf(rider), land.mindOf(rider)));
        }
    }

    // ---- rides

    public int mount(int first, int second) {
        history.note(now);
        return noted(getOn(first, second));
    }

    public int dismount() {
        history.note(now);
        return noted(getOff());
    }

    public int ride(int n) {
        history.note(now);
        int steps = goOn(n);
        if (steps > 0) {
            history.push();
        }
        if (steps >= 0) {
            told.tell(trial.spot(), trial.hasStopped() ? 1 : 0, trial.latest());
        }
        return steps;
    }

    public int walk(int rider, int way) {
        history.note(now);
        return noted(goAfoot(rider, way));
    }

    public int lead(int rider, int way) {
        history.note(now);
        return noted(goLeading(rider, way));
    }

    public int rest(int rider) {
        history.note(now);
        return noted(sleep(rider));
    }

    public int deal(int one, int other) {
        history.note(now);
        return noted(changeMaps(one, other));
    }

    /** What was noted ahead of an act can be undone only if the act was done. */
    private int noted(int answer) {
        if (answer >= 0) {
            history.push();
        }
        return answer;
    }

    private boolean areTwo(int one, int other) {
        return land.hasRider(one) && land.hasRider(other) && one != other;
    }

    private int getOn(int first, int second) {
        if (!areTwo(first, second)) {
            return NONE;
        }
        if (now.isMounted()) {
            return NOT_NOW;
        }
        int place = now.horse();
        if (now.placeOf(first) != place || now.placeOf(second) != place) {
            return NOT_BESIDE;
        }
        now.seat(first, second);
        return viewAt(first, place) != viewAt(second, place) ? 1 : 0;
    }

    private int getOff() {
        if (!now.isMounted()) {
            return NOT_NOW;
        }
        now.seat(NONE, NONE);
        return now.horse();
    }

    private int goOn(int n) {
        if (n < 0 || n > MOST_RIDE) {
            return NONE;
        }
        if (!now.isMounted()) {
            return NOT_NOW;
        }
        trial.resume();
        trial.go(n);
        trial.settle();
        return trial.taken();
    }

    private int goAfoot(int rider, int way) {
        if (!land.hasRider(rider)) {
            return NONE;
        }
        if (now.isUp(rider)) {
            return NOT_NOW;
        }
        int to = land.leadsTo(now.placeOf(rider), way);
        if (to == NONE) {
            return NO_WAY;
        }
        now.setPlace(rider, to);
        return to;
    }

    private int goLeading(int rider, int way) {
        if (!land.hasRider(rider)) {
            return NONE;
        }
        if (now.isMounted()) {
            return NOT_NOW;
        }
        int to = land.leadsTo(now.horse(), way);
        if (to == NONE) {
            return NO_WAY;
        }
        if (now.placeOf(rider) != now.horse()) {
            return ELSEWHERE;
        }
        now.setPlace(rider, to);
        now.setHorse(to);
        return to;
    }

    private int sleep(int rider) {
        if (!land.hasRider(rider)) {
            return NONE;
        }
        if (now.isUp(rider) || !land.isInn(now.placeOf(rider))) {
            return NOT_NOW;
        }
        int spent = now.spentOf(rider);
        now.setSpent(rider, 0);
        now.setConvincer(rider, NONE);
        return spent;
    }

    private int changeMaps(int one, int other) {
        if (!areTwo(one, other)) {
            return NONE;
        }
        int place = now.placeOf(one);
        if (now.placeOf(other) != place || !land.isInn(place) || now.isUp(one) || now.isUp(other)) {
            return NOT_NOW;
        }
        int unlike = 0;
        for (int at = 0; at < land.places(); at++) {
            unlike = unlike + (now.digit(one, at) != now.digit(other, at) ? 1 : 0);
        }
        now.changeMaps(one, other);
        return unlike;
    }

    public int journey() {
        int fault = Grammar.inJourney(text);
        if (fault != NONE) {
            text.clear();
            return -1 - fault;
        }
        history.note(now);
        text.open(JOURNEY_SIGNS);
        int done = 0;
        int steps = 0;
        boolean failed = false;
        for (int i = 0; i < JOURNEY_SIGNS && !failed && !text.isOver(); i++) {
            int kind = text.next();
            int one = text.number(kind == 'r' ? 2 : 1);
            int other = text.number(1);
            text.take(';');
            int answer = act(kind, one, other);
            failed = answer < 0;
            done = done + (failed ? 0 : 1);
            steps = steps + (failed || kind != 'r' ? 0 : answer);
        }
        if (done > 0) {
            history.push();
        }
        text.clear();
        told.tell(failed ? 1 : 0, steps);
        return done;
    }

    private int act(int kind, int one, int other) {
        switch (kind) {
            case 'm':
                return getOn(one, other);
            case 'd':
                return getOff();
            case 'r':
                return goOn(one);
            case 'w':
                return goAfoot(one, other);
            case 'l':
                return goLeading(one, other);
            case 'z':
                return sleep(one);
            case 'x':
                return changeMaps(one, other);
            default:
                return NONE;
        }
    }

    public int undo() {
        if (!history.back(now)) {
            return NONE;
        }
        limitSpent();
        return history.size();
    }

    // ---- rides to come

    public int where(int n) {
        if (n < 0 || n > LOOK_ON) {
            return NONE;
        }
        if (!now.isMounted()) {
            told.tell(0, 1);
            return now.horse();
        }
        trial.resume();
        trial.go(n);
        told.tell(trial.taken(), trial.hasStopped() ? 1 : 0);
        return trial.spot();
    }

    private boolean canRide(int first, int second, int from) {
        return areTwo(first, second) && land.hasPlace(from);
    }

    public int stops(int first, int second, int from) {
        if (!canRide(first, second, from)) {
            return NONE;
        }
        trial.begin(first, second, from);
        trial.goOut();
        if (!trial.hasStopped()) {
            told.tell(trial.spot());
            return NOT_NOW;
        }
        told.tell(trial.spot(), land.waysAt(trial.spot()) == 0 ? 0 : 1, trial.latest());
        return trial.taken();
    }

    public int trail(int first, int second, int from) {
        if (!canRide(first, second, from)) {
            return NONE;
        }
        for (int place = 0; place < MOST_PLACES; place++) {
            visits[place] = 0;
        }
        trial.begin(first, second, from);
        visits[from] = 1;
        for (int i = 0; i < LOOK_ON && trial.step(); i++) {
            if (land.hasPlace(trial.spot())) {
                visits[trial.spot()]++;
            }
        }
        return tellVisits();
    }

    private int tellVisits() {
        int seen = 0;
        int most = 0;
        int often = NONE;
        for (int place = 0; place < land.places(); place++) {
            seen = seen | (visits[place] > 0 ? 1 << place : 0);
            if (visits[place] > most) {
                most = visits[place];
                often = place;
            }
        }
        told.tell(trial.taken(), most, often);
        return seen;
    }

    public int reaches(int first, int second, int from, int to) {
        if (!canRide(first, second, from) || !land.hasPlace(to)) {
            return NONE;
        }
        trial.begin(first, second, from);
        return trial.comesTo(to) ? trial.taken() : NOT_NOW;
    }

    public int pairs(int from, int to) {
        if (!land.hasPlace(from) || !land.hasPlace(to)) {
            return NONE;
        }
        int found = 0;
        int fewest = LOOK_ON + 1;
        told.clear();
        for (int first = 0; first < land.riderCount(); first++) {
            for (int second = 0; second < land.riderCount(); second++) {
                if (first != second && stopsAt(first, second, from, to)) {
                    found++;
                    if (trial.taken() < fewest) {
                        fewest = trial.taken();
                        told.tell(first, second, fewest);
                    }
                }
            }
        }
        return found;
    }

    private boolean stopsAt(int first, int second, int from, int to) {
        trial.begin(first, second, from);
        trial.goOut();
        return trial.hasStopped() && trial.spot() == to;
    }

    public int changes(int from, int to) {
        if (!land.hasPlace(from) || !land.hasPlace(to)) {
            return NONE;
        }
        atlas.survey(from);
        int rides = atlas.fewest(from, to, false);
        if (rides == NONE) {
            return NOT_NOW;
        }
        atlas.tellRides(from, told);
        return rides;
    }

    public int stations(int from) {
        if (!land.hasPlace(from)) {
            return NONE;
        }
        int those = atlas.survey(from);
        told.tell(those & ~land.inns());
        return those;
    }

    // ---- who with whom

    public int foot(int from, int to) {
        if (!land.hasPlace(from) || !land.hasPlace(to)) {
            return NONE;
        }
        int ways = atlas.fewest(from, to, true);
        if (ways == NONE) {
            return NOT_NOW;
        }
        atlas.tellWays(from, told);
        return ways;
    }

    /** How many STEPS two RIDERS, as they are, ride from a PLACE. */
    private int stepsOf(int first, int second, int from) {
        trial.begin(first, second, from);
        trial.go(LOOK_ON);
        return trial.taken();
    }

    public int record(int from) {
        if (!land.hasPlace(from)) {
            return NONE;
        }
        if (land.riderCount() < 2) {
            return NOT_NOW;
        }
        int most = NONE;
        int bestFirst = NONE;
        int bestSecond = NONE;
        int as = 0;
        for (int first = 0; first < land.riderCount(); first++) {
            for (int second = 0; second < land.riderCount(); second++) {
                int steps = first == second ? NONE : stepsOf(first, second, from);
                if (steps > most) {
                    most = steps;
                    bestFirst = first;
                    bestSecond = second;
                    as = 0;
                }
                as = as + (first != second && steps == most ? 1 : 0);
            }
        }
        told.tell(bestFirst, bestSecond, as);
        return most;
    }

    public int matches(int those, int from) {
        if (!land.hasRiders(those) || !land.hasPlace(from)) {
            return NONE;
        }
        for (int first = 0; first < land.riderCount(); first++) {
            for (int second = first + 1; second < land.riderCount(); second++) {
                boolean both = (those >> first & those >> second & 1) != 0;
                matching.setSteps(first, second, both ? stepsOf(first, second, from) : 0);
            }
        }
        int steps = matching.best(those);
        matching.tell(land.riderCount(), told);
        return steps;
    }

    public int partner(int rider, int from) {
        if (!land.hasRider(rider) || !land.hasPlace(from)) {
            return NONE;
        }
        int most = NONE;
        int best = NONE;
        for (int other = 0; other < land.riderCount(); other++) {
            int steps = other == rider ? NONE : stepsOf(rider, other, from);
            if (steps > most) {
                most = steps;
                best = other;
            }
        }
        if (best == NONE) {
            return NOT_NOW;
        }
        told.tell(most);
        return best;
    }

    public int agree(int one, int other) {
        if (!areTwo(one, other)) {
            return NONE;
        }
        int alike = 0;
        for (int place = 0; place < land.places(); place++) {
            if (viewAt(one, place) == viewAt(other, place)) {
                alike = alike | 1 << place;
            }
        }
        told.tell(Integer.bitCount(alike));
        return alike;
    }

    // ---- arguments, lies

    public int convinces(int first, int second, int from) {
        if (!canRide(first, second, from)) {
            return NONE;
        }
        trial.begin(first, second, from);
        for (int i = 0; i < LOOK_ON && trial.latest() == NONE && trial.step(); i++) {
            continue;
        }
        if (trial.latest() == NONE) {
            return NOT_NOW;
        }
        told.tell(trial.taken(), trial.leftBeside(trial.latest()));
        return trial.latest();
    }

    public int claim(int which, int way) {
        if (which < 0 || which > 1) {
            return NONE;
        }
        int ways = land.waysAt(now.horse());
        if (!now.isMounted() || way < 0 || way >= ways) {
            return NOT_NOW;
        }
        int views = 0;
        trial.resume();
        for (int view = 0; view < ways; view++) {
            if (trial.wayClaiming(which, view) == way) {
                views = views | 1 << view;
            }
        }
        return views;
    }

    public int lie(int which, int to) {
        if (which < 0 || which > 1 || !land.hasPlace(to)) {
            return NONE;
        }
        if (!now.isMounted()) {
            return NOT_NOW;
        }
        int fewest = LOOK_ON + 1;
        int best = NOT_NOW;
        for (int view = 0; view < land.waysAt(now.horse()); view++) {
            trial.resume();
            boolean comes = trial.stepClaiming(which, view) && trial.comesTo(to);
            if (comes && trial.taken() < fewest) {
                fewest = trial.taken();
                best = view;
            }
        }
        if (best != NOT_NOW) {
            told.tell(fewest);
        }
        return best;
    }

    // ---- prints

    public int prints() {
        int fault = Grammar.inPrints(text, land.places());
        if (fault == NONE) {
            printed = Math.min(text.length(), MOST_PRINTS);
            for (int i = 0; i < printed; i++) {
                print[i] = text.at(i) - 'a';
            }
        }
        text.clear();
        return fault == NONE ? printed : -1 - fault;
    }

    public int fits() {
        if (printed == 0) {
            return NOT_NOW;
        }
        int found = 0;
        told.clear();
        for (int first = 0; first < land.riderCount(); first++) {
            for (int second = 0; second < land.riderCount(); second++) {
                if (first != second && leavesPrints(first, second)) {
                    if (found == 0) {
                        told.tell(first, second);
                    }
                    found++;
                }
            }
        }
        return found;
    }

    private boolean leavesPrints(int first, int second) {
        trial.begin(first, second, print[0]);
        for (int i = 1; i < printed; i++) {
            if (!trial.step() || trial.spot() != print[i]) {
                return false;
            }
        }
        return true;
    }

    public int views() {
        if (printed == 0) {
            return NOT_NOW;
        }
        int found = 0;
        told.clear();
        for (int i = 0; i + 1 < printed; i++) {
            int views = viewsBetween(i, print[i], print[i + 1]);
            if (views > 0) {
                found++;
                if (found <= MOST_TOLD_PRINTS) {
                    told.put(views);
                }
            }
        }
        return found;
    }

    private int viewsBetween(int steps, int from, int to) {
        int ways = land.waysAt(from);
        int found = 0;
        rule.setFacts(ways, from, steps, PRINT_MIND, PRINT_MIND);
        for (int a = 0; a < ways; a++) {
            for (int b = 0; b < ways; b++) {
                if (a != b && land.leadsTo(from, rule.tells(a, b)) == to) {
                    found++;
                }
            }
        }
        return found;
    }

    public int editions(int those) {
        if (!land.hasRiders(those)) {
            return NONE;
        }
        int found = 0;
        told.clear();
        for (int rider = 0; rider < land.riderCount(); rider++) {
            if ((those >> rider & 1) != 0) {
                int edition = editionSeen(those, rider);
                told.put(edition == NONE ? found : edition);
                found = found + (edition == NONE ? 1 : 0);
            }
        }
        return found;
    }

    /** The number that an earlier told RIDER with the same MAP has in the ROW, or NONE. */
    private int editionSeen(int those, int rider) {
        int at = 0;
        for (int earlier = 0; earlier < rider; earlier++) {
            if ((those >> earlier & 1) != 0) {
                if (now.mapOf(earlier) == now.mapOf(rider)) {
                    return told.at(at);
                }
                at++;
            }
        }
        return NONE;
    }

    public int kinds(int those, int place) {
        if (!land.hasRiders(those) || !land.hasPlace(place)) {
            return NONE;
        }
        int found = 0;
        int most = 0;
        int best = NONE;
        for (int view = 0; view < land.waysAt(place); view++) {
            int holders = holdersOf(view, those, place);
            found = found + (holders > 0 ? 1 : 0);
            if (holders > most) {
                most = holders;
                best = view;
            }
        }
        told.tell(best, most);
        return found;
    }

    private int holdersOf(int view, int those, int place) {
        int holders = 0;
        for (int rider = 0; rider < land.riderCount(); rider++) {
            if ((those >> rider & 1) != 0 && viewAt(rider, place) == view) {
                holders++;
            }
        }
        return holders;
    }

    // ---- a county

    public int county(int seed, int n) {
        if (n < 1 || n > COUNTY_RIDES) {
            return NONE;
        }
        if (land.riderCount() < 2) {
            return NOT_NOW;
        }
        for (int rider = 0; rider < MOST_RIDERS; rider++) {
            ridden[rider] = 0;
        }
        drawn = seed;
        int place = now.horse();
        int all = 0;
        int idle = 0;
        for (int i = 0; i < n; i++) {
            int steps = rideInCounty(place);
            place = trial.spot();
            all = all + steps;
            idle = idle + (steps == 0 ? 1 : 0);
        }
        told.tell(place, farthestRidden(), idle);
        return all;
    }

    private int rideInCounty(int place) {
        int first = draw(land.riderCount());
        int second = draw(land.riderCount());
        if (second == first) {
            second = first + 1 < land.riderCount() ? first + 1 : 0;
        }
        trial.beginFresh(first, second, place);
        trial.go(COUNTY_STEPS);
        int steps = trial.taken();
        ridden[first] = ridden[first] + steps;
        ridden[second] = ridden[second] + steps;
        return steps;
    }

    private int draw(int n) {
        drawn = drawn * 1103515245 + 12345;
        return n > 0 ? (drawn >>> 16) % n : 0;
    }

    private int farthestRidden() {
        int best = NONE;
        int most = 0;
        for (int rider = 0; rider < land.riderCount(); rider++) {
            if (ridden[rider] > most) {
                most = ridden[rider];
                best = rider;
            }
        }
        return best;
    }

    // ---- kept

    public boolean keep(int i) {
        return history.keepUnder(i, now);
    }

    public boolean again(int i) {
        if (!history.bringBack(i, now)) {
            return false;
        }
        limitSpent();
        return true;
    }

    public int count(int what) {
        switch (what) {
            case 0:
                return land.places();
            case 1:
                return land.riderCount();
            case 2:
                return now.horse();
            case 3:
                return now.first();
            case 4:
                return now.second();
            case 5:
                return now.steps();
            case 6:
                return convincedOnes();
            case 7:
                return land.inns();
            case 8:
                return printed;
            case 9:
                return history.size();
            case 10:
                return told.size();
            case 11:
                return text.length();
            default:
                return NO_COUNT;
        }
    }

    private int convincedOnes() {
        int those = 0;
        for (int rider = 0; rider < land.riderCount(); rider++) {
            if (now.convincerOf(rider) != NONE) {
                those = those | 1 << rider;
            }
        }
        return those;
    }

    public int row(int i) throws NoSuchElementException {
        if (i < 0 || i >= told.size()) {
            throw new NoSuchElementException("no such number");
        }
        return told.at(i);
    }

    /** The ROW. */
    private static final class Row {
        private static final int MOST = 16;

        private final int[] numbers;
        private int size;

        Row() {
            numbers = new int[MOST];
        }

        void clear() {
            size = 0;
        }

        void put(int number) {
            if (size < MOST) {
                numbers[size] = number;
                size++;
            }
        }

        void tell(int one) {
            clear();
            put(one);
        }

        void tell(int one, int two) {
            clear();
            put(one);
            put(two);
        }

        void tell(int one, int two, int three) {
            clear();
            put(one);
            put(two);
            put(three);
        }

        int size() {
            return size;
        }

        int at(int i) {
            return i >= 0 && i < size ? numbers[i] : NONE;
        }
    }

    /** THE TEXT, and how far it has been read. */
    private static final class Text {
        private final int[] signs;
        private int length;
        private int most;
        private int next;

        Text() {
            signs = new int[MOST_SIGNS];
        }

        int length() {
            return length;
        }

        int at(int i) {
            return i >= 0 && i < length ? signs[i] : NONE;
        }

        int add(int v) {
            if (length + 4 > MOST_SIGNS) {
                return NONE;
            }
            for (int shift = 24; shift >= 0; shift -= 8) {
                signs[length] = v >>> shift & 255;
                length++;
            }
            return length;
        }

        boolean cut(int n) {
            if (n < 0 || n > length) {
                return false;
            }
            length = n;
            return true;
        }

        void clear() {
            length = 0;
        }

        /** Reading begins; signs from number limit on are not seen. */
        void open(int limit) {
            most = limit;
            next = 0;
        }

        int position() {
            return next;
        }

        int peek() {
            return next < most && next < length ? signs[next] : NONE;
        }

        boolean isOver() {
            return peek() == NONE;
        }

        /** There are signs behind the most that may be told, and reading stands there. */
        boolean isCutShort() {
            return next >= most && length > most;
        }

        int next() {
            int sign = peek();
            if (sign != NONE) {
                next++;
            }
            return sign;
        }

        boolean take(int sign) {
            boolean same = peek() == sign;
            if (same) {
                next++;
            }
            return same;
        }

        boolean takeOf(int least, int last) {
            int sign = peek();
            boolean within = sign >= least && sign <= last;
            if (within) {
                next++;
            }
            return within;
        }

        /** The number told by the next digits, as many as there are up to some; NONE without. */
        int number(int digits) {
            int value = NONE;
            for (int i = 0; i < digits; i++) {
                int sign = peek();
                if (sign < '0' || sign > '9') {
                    return value;
                }
                value = (value == NONE ? 0 : value * 10) + sign - '0';
                next++;
            }
            return value;
        }

        /** Where a text that could end here goes on; NONE: it does not. */
        int goesOn() {
            return isOver() && !isCutShort() ? NONE : next;
        }
    }

    /** Where the first sign stands that can't stand there, or NONE: nothing is read into anything yet. */
    private static final class Grammar {
        static int inRoads(Text text) {
            int fault = inRoadLines(text);
            if (fault != NONE) {
                return fault;
            }
            int places = 1;
            for (int p = 0; p < text.length(); p++) {
                places = places + (text.at(p) == ';' ? 1 : 0);
            }
            for (int p = 0; p < text.length(); p++) {
                if (text.at(p) >= 'a' + places) {
                    return p;
                }
            }
            return NONE;
        }

        private static int inRoadLines(Text text) {
            text.open(LAND_SIGNS);
            for (int line = 0; line < MOST_PLACES; line++) {
                if (!takeRoadLine(text)) {
                    return text.position();
                }
                if (!text.take(';')) {
                    return text.goesOn();
                }
            }
            return text.position();
        }

        private static boolean takeRoadLine(Text text) {
            boolean taken = text.take('-');
            if (!taken) {
                for (int i = 0; i < MOST_WAYS && text.takeOf('a', 'j'); i++) {
                    taken = true;
                }
            }
            if (taken) {
                text.take('!');
            }
            return taken;
        }

        static int inRiders(Text text, int places, int room) {
            text.open(LAND_SIGNS);
            for (int line = 0; line < room; line++) {
                int fault = inRiderLine(text, places);
                if (fault != NONE) {
                    return fault;
                }
                if (!text.take(';')) {
                    return text.goesOn();
                }
            }
            return text.position();
        }

        private static int inRiderLine(Text text, int places) {
            int mind = text.number(2);
            if (mind == 0) {
                return text.position() - 1;
            }
            if (mind == NONE || !text.take(':')) {
                return text.position();
            }
            for (int i = 0; i < places; i++) {
                if (!text.takeOf('0', '2')) {
                    return text.position();
                }
            }
            return NONE;
        }

        static int inJourney(Text text) {
            text.open(JOURNEY_SIGNS);
            if (text.length() == 0) {
                return NONE;
            }
            for (int i = 0; i < JOURNEY_SIGNS; i++) {
                if (!takeAct(text)) {
                    return text.position();
                }
                if (!text.take(';')) {
                    return text.goesOn();
                }
            }
            return text.position();
        }

        private static boolean takeAct(Text text) {
            switch (text.peek()) {
                case 'm':
                case 'w':
                case 'l':
                case 'x':
                    text.next();
                    return text.takeOf('0', '9') && text.takeOf('0', '9');
                case 'd':
                    text.next();
                    return true;
                case 'z':
                    text.next();
                    return text.takeOf('0', '9');
                case 'r':
                    text.next();
                    return text.number(2) != NONE;
                default:
                    return false;
            }
        }

        static int inPrints(Text text, int places) {
            text.open(MOST_PRINTS);
            for (int i = 0; i < MOST_PRINTS && text.takeOf('a', 'a' + places - 1); i++) {
                continue;
            }
            return text.position() == 0 ? 0 : text.goesOn();
        }
    }

    /** THE ROADS and the MINDS: what no ride changes. */
    private static final class Land {
        private final int[] ways;
        private final int[] leads;
        private final int[] minds;
        private int places;
        private int inns;
        private int riders;

        Land() {
            ways = new int[MOST_PLACES];
            leads = new int[MOST_PLACES * MOST_WAYS];
            minds = new int[MOST_RIDERS];
        }

        int places() {
            return places;
        }

        int riderCount() {
            return riders;
        }

        int inns() {
            return inns;
        }

        boolean hasPlace(int place) {
            return place >= 0 && place < places;
        }

        boolean hasRider(int rider) {
            return rider >= 0 && rider < riders;
        }

        boolean hasRiders(int those) {
            return those >= 0 && those < 1 << riders;
        }

        int waysAt(int place) {
            return hasPlace(place) ? ways[place] : 0;
        }

        boolean isInn(int place) {
            return hasPlace(place) && (inns >> place & 1) != 0;
        }

        /** Where a WAY leads; NONE: no such WAY. */
        int leadsTo(int place, int way) {
            boolean known = hasPlace(place) && way >= 0 && way < ways[place];
            return known ? leads[place * MOST_WAYS + way] : NONE;
        }

        /** The VIEW that a MAP tells at a PLACE; NONE: no WAYS. */
        int viewOf(int map, int place) {
            int k = hasPlace(place) ? ways[place] : 0;
            return k > 0 ? (map >> 2 * place & 3) % k : NONE;
        }

        int mindOf(int rider) {
            return hasRider(rider) ? minds[rider] : 0;
        }

        void setMind(int rider, int mind) {
            if (hasRider(rider)) {
                minds[rider] = mind;
            }
        }

        void admit(int mind) {
            if (riders < MOST_RIDERS) {
                minds[riders] = mind;
                riders++;
            }
        }

        /** THE TEXT, which has no fault, is THE ROADS. */
        void lay(Text text) {
            places = 0;
            inns = 0;
            riders = 0;
            addPlace();
            for (int p = 0; p < text.length(); p++) {
                int sign = text.at(p);
                if (sign == ';') {
                    addPlace();
                } else if (sign == '!') {
                    inns = inns | 1 << places - 1;
                } else if (sign != '-') {
                    addWay(sign - 'a');
                }
            }
        }

        private void addPlace() {
            if (places < MOST_PLACES) {
                ways[places] = 0;
                places++;
            }
        }

        private void addWay(int to) {
            int place = places - 1;
            if (place >= 0 && ways[place] < MOST_WAYS) {
                leads[place * MOST_WAYS + ways[place]] = to;
                ways[place]++;
            }
        }
    }

    /** THE RULE, kept so that a STEP need not read its text: things and signs in the order of reckoning. */
    private static final class Rule {
        private static final int MOST_DEPTH = 4;
        private static final int COMPARISONS = 0;
        private static final int SUMS = 1;
        private static final int PRODUCTS = 2;
        private static final int THING = 1000;
        private static final int THINGS = 7;
        private static final int NEGATE = 2000;
        private static final int JOIN = 3000;

        private final int[] code;
        private final int[] draft;
        private final int[] stack;
        private final int[] things;
        private int length;
        private int drafted;

        Rule() {
            code = new int[RULE_SIGNS];
            draft = new int[RULE_SIGNS];
            stack = new int[RULE_SIGNS];
            things = new int[THINGS];
        }

        void setFacts(int k, int p, int s, int m, int n) {
            things[2] = k;
            things[3] = p;
            things[4] = s;
            things[5] = m;
            things[6] = n;
        }

        /** The WAY, by the facts that were set and two VIEWS. */
        int tells(int a, int b) {
            int k = things[2];
            if (k < 1) {
                return NONE;
            }
            things[0] = a;
            things[1] = b;
            int top = 0;
            stack[0] = k - a - b + (k == 2 ? a : 0);
            for (int i = 0; i < length; i++) {
                int c = code[i];
                if (c < NEGATE && top < RULE_SIGNS) {
                    stack[top] = c < THING ? c : things[(c - THING) % THINGS];
                    top++;
                } else if (c == NEGATE && top > 0) {
                    stack[top - 1] = -stack[top - 1];
                } else if (c > NEGATE && top > 1) {
                    top--;
                    stack[top - 1] = joined(c - JOIN, stack[top - 1], stack[top]);
                }
            }
            int left = stack[0] % k;
            return left < 0 ? left + k : left;
        }

        private static int joined(int sign, int x, int y) {
            switch (sign) {
                case '<':
                    return x < y ? 1 : 0;
                case '>':
                    return x > y ? 1 : 0;
                case '=':
                    return x == y ? 1 : 0;
                case '+':
                    return x + y;
                case '-':
                    return x - y;
                case '*':
                    return x * y;
                default:
                    return y == 0 ? 0 : x / y;
            }
        }

        /** THE TEXT is THE RULE: NONE; or where its first fault is, and THE RULE is as it was. */
        int read(Text text) {
            drafted = 0;
            text.open(RULE_SIGNS);
            if (text.length() > 0) {
                if (!takeJoined(text, COMPARISONS, 0)) {
                    return text.position();
                }
                int behind = text.goesOn();
                if (behind != NONE) {
                    return behind;
                }
            }
            System.arraycopy(draft, 0, code, 0, RULE_SIGNS);
            length = drafted;
            return NONE;
        }

        private void write(int c) {
            if (drafted < RULE_SIGNS) {
                draft[drafted] = c;
                drafted++;
            }
        }

        /** Things joined by signs of a rank and of those that bind more. */
        private boolean takeJoined(Text text, int rank, int depth) {
            if (rank > PRODUCTS) {
                return takeSigned(text, depth);
            }
            boolean taken = takeJoined(text, rank + 1, depth);
            int most = rank == COMPARISONS ? 1 : RULE_SIGNS;
            for (int i = 0; i < most && taken && rankOf(text.peek()) == rank; i++) {
                int sign = text.next();
                taken = takeJoined(text, rank + 1, depth);
                write(JOIN + sign);
            }
            return taken;
        }

        private static int rankOf(int sign) {
            switch (sign) {
                case '<':
                case '>':
                case '=':
                    return COMPARISONS;
                case '+':
                case '-':
                    return SUMS;
                case '*':
                case '/':
                    return PRODUCTS;
                default:
                    return NONE;
            }
        }

        private boolean takeSigned(Text text, int depth) {
            boolean below = false;
            for (int i = 0; i < RULE_SIGNS && text.take('-'); i++) {
                below = !below;
            }
            boolean taken = text.peek() == '(' ? takeInner(text, depth) : takeThing(text);
            if (below) {
                write(NEGATE);
            }
            return taken;
        }

        private boolean takeInner(Text text, int depth) {
            if (depth >= MOST_DEPTH) {
                return false;
            }
            text.next();
            return takeJoined(text, COMPARISONS, depth + 1) && text.take(')');
        }

        private boolean takeThing(Text text) {
            int number = text.number(3);
            if (number != NONE) {
                write(number);
                return true;
            }
            int thing = thingOf(text.peek());
            if (thing == NONE) {
                return false;
            }
            text.next();
            write(THING + thing);
            return true;
        }

        private static int thingOf(int sign) {
            switch (sign) {
                case 'a':
                    return 0;
                case 'b':
                    return 1;
                case 'k':
                    return 2;
                case 'p':
                    return 3;
                case 's':
                    return 4;
                case 'm':
                    return 5;
                case 'n':
                    return 6;
                default:
                    return NONE;
            }
        }
    }

    /** THE HORSE and RIDERS as rides change them, in one row of numbers so that it is copied at once. */
    private static final class Standing {
        private static final int SPENT = 0;
        private static final int AT = MOST_RIDERS;
        private static final int BY = 2 * MOST_RIDERS;
        private static final int MAP = 3 * MOST_RIDERS;
        private static final int HORSE = 4 * MOST_RIDERS;
        private static final int FIRST = HORSE + 1;
        private static final int SECOND = HORSE + 2;
        private static final int STEPS = HORSE + 3;
        private static final int SIZE = HORSE + 4;

        private final int[] numbers;

        Standing() {
            numbers = new int[SIZE];
            numbers[FIRST] = NONE;
            numbers[SECOND] = NONE;
        }

        void clear() {
            numbers[HORSE] = 0;
            seat(NONE, NONE);
        }

        void copy(Standing other) {
            System.arraycopy(other.numbers, 0, numbers, 0, SIZE);
        }

        private int get(int part, int rider) {
            return rider >= 0 && rider < MOST_RIDERS ? numbers[part + rider] : NONE;
        }

        private void set(int part, int rider, int number) {
            if (rider >= 0 && rider < MOST_RIDERS) {
                numbers[part + rider] = number;
            }
        }

        void admit(int rider, int map) {
            set(SPENT, rider, 0);
            set(AT, rider, 0);
            set(BY, rider, NONE);
            set(MAP, rider, map);
        }

        int spentOf(int rider) {
            return get(SPENT, rider);
        }

        void setSpent(int rider, int spent) {
            set(SPENT, rider, spent);
        }

        int placeOf(int rider) {
            return get(AT, rider);
        }

        void setPlace(int rider, int place) {
            set(AT, rider, place);
        }

        int convincerOf(int rider) {
            return get(BY, rider);
        }

        void setConvincer(int rider, int by) {
            set(BY, rider, by);
        }

        int mapOf(int rider) {
            return get(MAP, rider);
        }

        /** The MAP that a RIDER goes by: one step alone, whoever has convinced that one. */
        int guidingMap(int rider) {
            int by = convincerOf(rider);
            return mapOf(by == NONE ? rider : by);
        }

        int digit(int rider, int place) {
            return place >= 0 && place < MOST_PLACES ? mapOf(rider) >> 2 * place & 3 : 0;
        }

        void changeMaps(int one, int other) {
            int map = mapOf(one);
            set(MAP, one, mapOf(other));
            set(MAP, other, map);
        }

        int horse() {
            return numbers[HORSE];
        }

        void setHorse(int place) {
            numbers[HORSE] = place;
        }

        int first() {
            return numbers[FIRST];
        }

        int second() {
            return numbers[SECOND];
        }

        int steps() {
            return numbers[STEPS];
        }

        void setSteps(int steps) {
            numbers[STEPS] = steps;
        }

        boolean isMounted() {
            return numbers[FIRST] != NONE;
        }

        boolean isUp(int rider) {
            return rider != NONE && (numbers[FIRST] == rider || numbers[SECOND] == rider);
        }

        /** Who is on THE HORSE from now on: a ride begins, or there is none. */
        void seat(int first, int second) {
            numbers[FIRST] = first;
            numbers[SECOND] = second;
            numbers[STEPS] = 0;
        }
    }

    /** What can be undone, and what is kept. */
    private static final class History {
        // one more than can be undone, so that a note never covers the oldest of them
        private static final int ROOM = MOST_UNDONE + 1;

        private final Standing[] past;
        private final Standing[] kept;
        private int next;
        private int size;
        private int keptOnes;

        History() {
            past = new Standing[ROOM];
            for (int i = 0; i < ROOM; i++) {
                past[i] = new Standing();
            }
            kept = new Standing[MOST_KEPT];
            for (int i = 0; i < MOST_KEPT; i++) {
                kept[i] = new Standing();
            }
        }

        int size() {
            return size;
        }

        void forgetAll() {
            size = 0;
            keptOnes = 0;
        }

        void note(Standing now) {
            past[next].copy(now);
        }

        /** What was noted last can be undone. */
        void push() {
            next = (next + 1) % ROOM;
            size = Math.min(size + 1, MOST_UNDONE);
        }

        boolean back(Standing now) {
            if (size == 0) {
                return false;
            }
            next = (next + ROOM - 1) % ROOM;
            size--;
            now.copy(past[next]);
            return true;
        }

        boolean keepUnder(int i, Standing now) {
            if (i < 0 || i >= MOST_KEPT) {
                return false;
            }
            kept[i].copy(now);
            keptOnes = keptOnes | 1 << i;
            return true;
        }

        boolean bringBack(int i, Standing now) {
            if (i < 0 || i >= MOST_KEPT || (keptOnes >> i & 1) == 0) {
                return false;
            }
            now.copy(kept[i]);
            size = 0;
            return true;
        }
    }

    /** A ride of two, tried out beside the true one; settle() makes it the true one. */
    private static final class Ride {
        private final Land land;
        private final Rule rule;
        private final Standing now;
        private final int[] who;
        private final int[] left;
        private final int[] by;
        private final int[] own;
        private final int[] map;
        private int place;
        private int begun;
        private int taken;
        private int latest;
        private boolean stopped;

        Ride(Land land, Rule rule, Standing now) {
            this.land = land;
            this.rule = rule;
            this.now = now;
            who = new int[2];
            left = new int[2];
            by = new int[2];
            own = new int[2];
            map = new int[2];
        }

        void beginFresh(int first, int second, int from) {
            who[0] = first;
            who[1] = second;
            for (int i = 0; i < 2; i++) {
                left[i] = land.mindOf(who[i]);
                by[i] = NONE;
                own[i] = now.mapOf(who[i]);
                map[i] = own[i];
            }
            place = from;
            begun = 0;
            taken = 0;
            latest = NONE;
            stopped = false;
        }

        void begin(int first, int second, int from) {
            beginFresh(first, second, from);
            for (int i = 0; i < 2; i++) {
                left[i] = land.mindOf(who[i]) - now.spentOf(who[i]);
                by[i] = now.convincerOf(who[i]);
                map[i] = now.guidingMap(who[i]);
            }
        }

        /** The true ride, as it is now. */
        void resume() {
            begin(now.first(), now.second(), now.horse());
            begun = now.steps();
        }

        void settle() {
            now.setHorse(place);
            now.setSteps(begun + taken);
            for (int i = 0; i < 2; i++) {
                now.setPlace(who[i], place);
                now.setSpent(who[i], land.mindOf(who[i]) - left[i]);
                now.setConvincer(who[i], by[i]);
            }
        }

        int spot() {
            return place;
        }

        int taken() {
            return taken;
        }

        /** Who was CONVINCED last in this ride. */
        int latest() {
            return latest;
        }

        boolean hasStopped() {
            return stopped;
        }

        /** MIND left of the one who rides with this one. */
        int leftBeside(int rider) {
            return rider == who[0] ? left[1] : left[0];
        }

        /** The WAY of the next STEP by these VIEWS; NONE: they are alike, or there are no WAYS. */
        private int wayBy(int a, int b) {
            int ways = land.waysAt(place);
            if (a == b || ways == 0) {
                return NONE;
            }
            rule.setFacts(ways, place, begun + taken, left[0], left[1]);
            return rule.tells(a, b);
        }

        int wayClaiming(int which, int view) {
            int other = land.viewOf(which == 0 ? map[1] : map[0], place);
            return which == 0 ? wayBy(view, other) : wayBy(other, view);
        }

        boolean stepClaiming(int which, int view) {
            return goBy(wayClaiming(which, view));
        }

        boolean step() {
            return goBy(wayBy(land.viewOf(map[0], place), land.viewOf(map[1], place)));
        }

        private boolean goBy(int way) {
            int to = land.leadsTo(place, way);
            if (to == NONE) {
                stopped = true;
                return false;
            }
            place = to;
            taken++;
            wear();
            return true;
        }

        private void wear() {
            int one = left[0] < left[1] ? 0 : 1;
            if (by[one] != NONE) {
                return;
            }
            left[one] = Math.max(left[one] - 1, 0);
            if (left[one] == 0) {
                by[one] = who[1 - one];
                map[one] = own[1 - one];
                latest = who[one];
            }
        }

        void go(int most) {
            for (int i = 0; i < most && step(); i++) {
                continue;
            }
        }

        /** As far as is looked on; a ride that STOPS just there has STOPPED too. */
        void goOut() {
            for (int i = 0; i < LOOK_ON && step(); i++) {
                continue;
            }
            stopped = stopped || land.viewOf(map[0], place) == land.viewOf(map[1], place);
        }

        /** Goes on till it is at a PLACE: false if it STOPS ahead of that, or is too far. */
        boolean comesTo(int to) {
            for (int i = taken; i < LOOK_ON && place != to && step(); i++) {
                continue;
            }
            return place == to;
        }
    }

    /** The fewest rides, by changing RIDERS at INNS, and the fewest WAYS on foot. */
    private static final class Atlas {
        private static final int PAIRS = MOST_RIDERS * MOST_RIDERS;

        private final Land land;
        private final Ride ride;
        private final int[] ends;
        private final int[] far;

        Atlas(Land land, Ride ride) {
            this.land = land;
            this.ride = ride;
            ends = new int[MOST_PLACES * PAIRS];
            far = new int[MOST_PLACES];
        }

        /**
         * Where the ride of each fresh pair STOPS, from a PLACE and from each INN where such rides
         * STOP; rides from other PLACES are none. All PLACES where they STOP.
         */
        int survey(int from) {
            for (int i = 0; i < MOST_PLACES * PAIRS; i++) {
                ends[i] = NONE;
            }
            int seen = 0;
            int surveyed = 0;
            for (int round = 0; round < MOST_PLACES; round++) {
                int begins = (1 << from | seen & land.inns()) & ~surveyed;
                for (int place = 0; place < land.places(); place++) {
                    seen = seen | ((begins >> place & 1) != 0 ? surveyFrom(place) : 0);
                }
                surveyed = surveyed | begins;
            }
            return seen;
        }

        private int surveyFrom(int place) {
            int seen = 0;
            for (int first = 0; first < land.riderCount(); first++) {
                for (int second = 0; second < land.riderCount(); second++) {
                    if (first != second) {
                        ride.beginFresh(first, second, place);
                        ride.goOut();
                        if (ride.hasStopped()) {
                            ends[place * PAIRS + first * MOST_RIDERS + second] = ride.spot();
                            seen = seen | 1 << ride.spot();
                        }
                    }
                }
            }
            return seen;
        }

        /** The end is 0 rides or WAYS far from itself; how far others are is not known yet. */
        private void beginAt(int to) {
            for (int place = 0; place < MOST_PLACES; place++) {
                far[place] = place == to ? 0 : NONE;
            }
        }

        private int farOf(int place) {
            return land.hasPlace(place) ? far[place] : NONE;
        }

        /** WAYS on foot, or rides that were surveyed last; NONE: one can't. */
        int fewest(int from, int to, boolean afoot) {
            beginAt(to);
            for (int n = 1; n < MOST_PLACES; n++) {
                for (int place = 0; place < land.places(); place++) {
                    if (far[place] == NONE) {
                        int next = afoot ? wayTo(place, n - 1) : pairTo(place, n - 1);
                        far[place] = next == NONE ? NONE : n;
                    }
                }
            }
            return farOf(from);
        }

        /** The first pair whose ride STOPS where it is just so far from the end. */
        private int pairTo(int place, int rides) {
            if (!land.hasPlace(place)) {
                return NONE;
            }
            for (int pair = 0; pair < PAIRS; pair++) {
                if (farOf(ends[place * PAIRS + pair]) == rides) {
                    return pair;
                }
            }
            return NONE;
        }

        void tellRides(int from, Row told) {
            told.clear();
            int place = from;
            int rides = Math.min(farOf(from), MOST_TOLD_RIDES);
            for (int i = 0; i < rides; i++) {
                int pair = pairTo(place, farOf(place) - 1);
                if (pair != NONE) {
                    told.put(pair / MOST_RIDERS);
                    told.put(pair % MOST_RIDERS);
                    place = ends[place * PAIRS + pair];
                }
            }
        }

        private int wayTo(int place, int ways) {
            for (int way = 0; way < land.waysAt(place); way++) {
                if (farOf(land.leadsTo(place, way)) == ways) {
                    return way;
                }
            }
            return NONE;
        }

        void tellWays(int from, Row told) {
            told.clear();
            int place = from;
            int ways = farOf(from);
            for (int i = 0; i < ways; i++) {
                int way = wayTo(place, farOf(place) - 1);
                told.put(way);
                place = land.leadsTo(place, way);
            }
        }
    }

    /** RIDERS parted in pairs so that they go the farthest. */
    private static final class Matching {
        private final int[] steps;
        private final int[] with;
        private final int[] bestWith;
        private int most;

        Matching() {
            steps = new int[MOST_RIDERS * MOST_RIDERS];
            with = new int[MOST_RIDERS];
            bestWith = new int[MOST_RIDERS];
        }

        void setSteps(int first, int second, int number) {
            if (first >= 0 && first < MOST_RIDERS && second >= 0 && second < MOST_RIDERS) {
                steps[first * MOST_RIDERS + second] = number;
            }
        }

        int best(int those) {
            most = NONE;
            for (int rider = 0; rider < MOST_RIDERS; rider++) {
                with[rider] = NONE;
            }
            part(0, those, 0, Integer.bitCount(those) % 2 != 0);
            return most;
        }

        /** Partings come with rising rows, so the first of as good ones is the least. */
        private void part(int one, int rest, int sum, boolean odd) {
            if (one >= MOST_RIDERS) {
                if (sum > most) {
                    most = sum;
                    System.arraycopy(with, 0, bestWith, 0, MOST_RIDERS);
                }
                return;
            }
            if ((rest >> one & 1) == 0) {
                part(one + 1, rest, sum, odd);
                return;
            }
            if (odd) {
                with[one] = NONE;
                part(one + 1, rest & ~(1 << one), sum, false);
            }
            for (int other = one + 1; other < MOST_RIDERS; other++) {
                if ((rest >> other & 1) != 0) {
                    with[one] = other;
                    with[other] = one;
                    int others = rest & ~(1 << one | 1 << other);
                    part(one + 1, others, sum + steps[one * MOST_RIDERS + other], odd);
                }
            }
        }

        void tell(int riders, Row told) {
            told.clear();
            for (int rider = 0; rider < riders && rider < MOST_RIDERS; rider++) {
                told.put(bestWith[rider]);
            }
        }
    }
}

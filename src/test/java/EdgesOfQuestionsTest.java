/** Edges of promises 20 to 34: rides to come, who with whom, arguments and lies. */
public final class EdgesOfQuestionsTest extends Edges {
    private static final int[] NO_PLACE = {4, 10, -1, Integer.MAX_VALUE, Integer.MIN_VALUE};
    private static final int[] NO_RIDER = {3, 6, -1, Integer.MAX_VALUE, Integer.MIN_VALUE};

    public static void main(String[] args) {
        where();
        stops();
        trail();
        reaches();
        pairs();
        changes();
        changesRow();
        stations();
        foot();
        record();
        matches();
        partner();
        agree();
        convinces();
        claim();
        lie();
        finishEdges();
    }

    /** A question of two unlike RIDERS and a PLACE. */
    private interface OfTwo {
        int ask(OfDifferentMinds x, int first, int second, int from);
    }

    private static void refusesOthers(OfTwo question) {
        Probe t = Probe.county();
        t.x.agree(0, 1);
        for (int r : NO_RIDER) {
            t.idle(() -> question.ask(t.x, r, 0, 0), -1);
            t.idle(() -> question.ask(t.x, 0, r, 0), -1);
            t.idle(() -> question.ask(t.x, r, r, 0), -1);
        }
        for (int p : NO_PLACE) {
            t.idle(() -> question.ask(t.x, 0, 1, p), -1);
        }
        t.idle(() -> question.ask(t.x, 1, 1, 0), -1);
    }

    /** A question of two PLACES. */
    private interface FromTo {
        int ask(OfDifferentMinds x, int from, int to);
    }

    private static void refusesNoPlaces(FromTo question) {
        Probe t = Probe.county();
        t.x.agree(0, 1);
        for (int p : NO_PLACE) {
            t.idle(() -> question.ask(t.x, p, 0), -1);
            t.idle(() -> question.ask(t.x, 0, p), -1);
            t.idle(() -> question.ask(t.x, p, p), -1);
        }
    }

    private static void where() {
        promise(20);
        edge("Where THE HORSE is in n STEPS (0 .. 200), or where it STOPS ahead of that;", () -> {
            Probe t = Probe.county();
            t.x.mount(1, 0);
            is(t.x.where(0), 0);
            is(t.x.where(1), 1);
            is(t.x.where(2), 0);
            is(t.x.where(3), 1);
            is(t.x.where(4), 1);
            is(t.x.where(200), 1);
            Probe s = Probe.stubborn();
            s.x.mount(0, 1);
            s.rule("s=199");
            is(s.x.where(199), 0);
            is(s.x.where(200), 2);
            // STEPS of this ride go on
            s.x.ride(99);
            is(s.x.where(100), 0);
            is(s.x.where(101), 2);
        });
        edge("the ROW: STEPS it did, 1 if it STOPPED ahead of the n-th (or nobody is on it).", () -> {
            Probe t = Probe.county();
            t.due(t.x.where(0), 0, 0, 1);
            t.due(t.x.where(1), 0, 0, 1);
            t.due(t.x.where(200), 0, 0, 1);
            t.x.mount(1, 0);
            t.due(t.x.where(0), 0, 0, 0);
            t.due(t.x.where(3), 1, 3, 0);
            t.due(t.x.where(4), 1, 3, 1);
            t.x.ride(3);
            t.due(t.x.where(0), 1, 0, 0);
            t.due(t.x.where(1), 1, 0, 1);
            t.x.dismount();
            t.due(t.x.where(9), 1, 0, 1);
            Probe s = Probe.stubborn();
            s.x.mount(0, 1);
            s.due(s.x.where(200), 0, 200, 0);
        });
        edge("NONE: another n.", () -> {
            Probe t = Probe.county();
            for (int round = 0; round < 2; round++) {
                for (int n : new int[] {-1, 201, Integer.MAX_VALUE, Integer.MIN_VALUE}) {
                    t.idle(() -> t.x.where(n), -1);
                }
                t.x.mount(0, 1);
            }
        });
    }

    private static void stops() {
        promise(21);
        edge("Two unlike RIDERS (as they are; wherever) ride from a PLACE, a ride begun anew: after how many STEPS it STOPS: how many;", () -> {
            Probe t = Probe.county();
            is(t.x.stops(1, 0, 0), 3);
            is(t.x.stops(0, 1, 0), 1);
            is(t.x.stops(0, 2, 0), 0);
            // wherever they and THE HORSE are
            t.x.walk(1, 1);
            is(t.x.stops(1, 0, 0), 3);
            // as they are: 2 of 3 MIND SPENT
            t.journey("w10;m10;r2");
            is(t.x.stops(1, 0, 0), 1);
            // s begins anew
            t.rule("(s>0)*2");
            is(t.x.stops(1, 0, 1), 1);
            is(t.x.where(1), 1);
            // a CONVINCED one has the other's views
            t.rule("");
            t.x.ride(1);
            t.due(t.x.stops(1, 0, 0), 0, 0, 1, -1);
        });
        edge("the ROW: where, 0 if by no WAYS, 1 by VIEWS alike, who was CONVINCED (NONE).", () -> {
            Probe t = Probe.county();
            t.due(t.x.stops(1, 0, 0), 3, 1, 1, 1);
            t.due(t.x.stops(0, 2, 1), 5, 1, 1, 2);
            t.due(t.x.stops(0, 1, 0), 1, 2, 1, -1);
            t.due(t.x.stops(0, 1, 3), 0, 3, 0, -1);
            // CONVINCED by the STEP by which it comes to where no WAYS are
            Probe u = new Probe("bb;-", "1:00;9:11");
            u.due(u.x.stops(0, 1, 0), 1, 1, 0, 0);
            u.due(u.x.stops(1, 0, 0), 1, 1, 0, 0);
        });
        edge("-2: not in 200 (the ROW: where it is then); NONE: others.", () -> {
            Probe s = Probe.stubborn();
            s.due(s.x.stops(0, 1, 0), -2, 0);
            s.rule("s=199");
            s.due(s.x.stops(0, 1, 0), 200, 2, 0, -1);
            s.rule("s=198");
            s.due(s.x.stops(0, 1, 0), 199, 2, 0, -1);
            s.rule("s=200");
            s.due(s.x.stops(0, 1, 0), -2, 0);
            // where it is after 200, from another PLACE: b and c by turns
            Probe u = new Probe("aa!;cc;bb", "1:000;2:000;9:111");
            u.journey("m20;r1;d");
            u.due(u.x.stops(0, 1, 1), -2, 1);
            u.due(u.x.stops(0, 1, 2), -2, 2);
            // by VIEWS alike just after the 200th STEP
            Probe v = new Probe("bb!;bc;c", "1:000;2:000;9:110");
            v.journey("m20;r1;d");
            v.rule("s=199");
            v.due(v.x.stops(0, 1, 0), 200, 2, 1, -1);
            refusesOthers(OfDifferentMinds::stops);
        });
    }

    private static void trail() {
        promise(22);
        edge("PLACES (bits) by which such a ride comes (the first one too);", () -> {
            Probe t = Probe.county();
            is(t.x.trail(1, 0, 0), 3);
            is(t.x.trail(0, 1, 0), 5);
            is(t.x.trail(0, 2, 0), 1);
            is(t.x.trail(0, 1, 3), 8);
            Probe far = new Probe("a;a;a;a;a;a;a;a;a;aa", "1:0000000000;1:0000000001");
            is(far.x.trail(0, 1, 9), 513);
        });
        edge("the ROW: how many STEPS it does (200 at most), how often it comes by the PLACE it comes by the most often,"
            + " which (the first such).", () -> {
            Probe t = Probe.county();
            t.due(t.x.trail(1, 0, 0), 3, 3, 2, 0);
            t.due(t.x.trail(0, 2, 1), 2, 5, 6, 1);
            t.due(t.x.trail(0, 2, 0), 1, 0, 1, 0);
            t.due(t.x.trail(0, 1, 3), 8, 0, 1, 3);
            // b once, then a once
            Probe back = new Probe("-;aa", "9:00;9:11");
            back.due(back.x.trail(0, 1, 1), 3, 1, 1, 0);
            Probe s = Probe.stubborn();
            s.due(s.x.trail(0, 1, 0), 1, 200, 201, 0);
            s.rule("s=199");
            s.due(s.x.trail(0, 1, 0), 5, 200, 200, 0);
            s.rule("s=200");
            s.due(s.x.trail(0, 1, 0), 1, 200, 201, 0);
        });
        edge("NONE: others.", () -> refusesOthers(OfDifferentMinds::trail));
    }

    private static void reaches() {
        promise(23);
        edge("After how many STEPS such a ride is at a PLACE first (0: it begins there).", () -> {
            Probe t = Probe.county();
            is(t.x.reaches(1, 0, 0, 0), 0);
            is(t.x.reaches(0, 2, 0, 0), 0);
            is(t.x.reaches(0, 1, 3, 3), 0);
            // at b after 1 and 3 STEPS
            is(t.x.reaches(1, 0, 0, 1), 1);
            is(t.x.reaches(0, 1, 0, 2), 1);
        });
        edge("-2: not in 200, or it STOPS ahead of that; NONE: others.", () -> {
            Probe t = Probe.county();
            is(t.x.reaches(0, 1, 0, 1), -2);
            is(t.x.reaches(0, 2, 0, 1), -2);
            is(t.x.reaches(0, 1, 3, 0), -2);
            Probe s = Probe.stubborn();
            is(s.x.reaches(0, 1, 0, 2), -2);
            s.rule("s=199");
            is(s.x.reaches(0, 1, 0, 2), 200);
            s.rule("s=200");
            is(s.x.reaches(0, 1, 0, 2), -2);
            refusesOthers((x, first, second, from) -> x.reaches(first, second, from, 0));
            refusesOthers((x, first, second, to) -> x.reaches(first, second, 0, to));
            refusesOthers((x, first, second, p) -> x.reaches(first, second, p, p));
        });
    }

    private static void pairs() {
        promise(24);
        edge("Pairs (THE FIRST, THE SECOND; in both orders) whose ride from a PLACE STOPS at another one, or the same: how many;", () -> {
            Probe t = Probe.county();
            is(t.x.pairs(0, 2), 3);
            is(t.x.pairs(0, 1), 1);
            is(t.x.pairs(0, 0), 2);
            is(t.x.pairs(0, 3), 0);
            is(t.x.pairs(3, 3), 6);
            is(new Probe("aa", "9:0").x.pairs(0, 0), 0);
            is(new Probe("aa", "").x.pairs(0, 0), 0);
            is(new Probe("-", "9:0;9:0;9:0;9:0;9:0;9:0").x.pairs(0, 0), 30);
            // to be there is not to STOP there
            Probe by = new Probe("bb;cc;-", "9:000;9:111");
            is(by.x.pairs(0, 1), 0);
            is(by.x.pairs(0, 2), 2);
            Probe s = Probe.stubborn();
            s.rule("s=199");
            is(s.x.pairs(0, 2), 4);
            s.rule("s=200");
            is(s.x.pairs(0, 2), 0);
        });
        edge("the ROW: the pair that does by the fewest STEPS (the first such; none without), these STEPS.", () -> {
            Probe t = Probe.county();
            t.due(t.x.pairs(0, 2), 3, 0, 1, 1);
            t.due(t.x.pairs(0, 1), 1, 1, 0, 3);
            t.due(t.x.pairs(0, 3), 0);
            t.due(t.x.pairs(3, 3), 6, 0, 1, 0);
            // 0 and 1 by 5 STEPS, with 2 either by 3
            Probe u = new Probe("aaa", "9:0;5:1;3:2");
            u.due(u.x.pairs(0, 0), 6, 0, 2, 3);
            // 2 and 3 by none
            u.riders("1:2");
            u.due(u.x.pairs(0, 0), 12, 2, 3, 0);
            Probe s = Probe.stubborn();
            s.rule("s=199");
            s.due(s.x.pairs(0, 2), 4, 0, 1, 200);
        });
        edge("NONE: others.", () -> refusesNoPlaces(OfDifferentMinds::pairs));
    }

    private static void changes() {
        promise(25);
        edge("The fewest rides, each by a pair that is fresh (SPENT 0, CONVINCED by nobody),", () -> {
            Probe t = Probe.county();
            is(t.x.changes(0, 1), 1);
            t.journey("m10;r2");
            is(t.x.changes(0, 1), 1);
            t.x.ride(1);
            is(t.x.count(6), 2);
            is(t.x.changes(0, 1), 1);
            // but with MAPS as they are dealt
            Probe u = new Probe("ab!;-", "1:00;1:10;1:00");
            u.due(u.x.changes(0, 1), 1, 0, 1);
            u.x.deal(0, 1);
            u.due(u.x.changes(0, 1), 1, 1, 0);
        });
        edge("from where the last one STOPPED (that must be an INN, or where the first began),", () -> {
            Probe c = Probe.chain();
            is(c.x.changes(0, 6), 6);
            is(c.x.changes(0, 7), 7);
            // h is no INN: it is not gone on from there, but may be begun there
            is(c.x.changes(0, 8), -2);
            is(c.x.changes(6, 8), -2);
            is(c.x.changes(7, 8), 1);
            Probe inn = new Probe("ab;bc!;-", "1:000;1:110");
            is(inn.x.changes(0, 2), 2);
            Probe noInn = new Probe("ab!;bc;-!", "1:000;1:110");
            is(noInn.x.changes(0, 2), -2);
        });
        edge("by which THE HORSE comes from a PLACE to one where it STOPS at the last: how many (0: like PLACES);", () -> {
            Probe t = Probe.county();
            is(t.x.changes(0, 2), 1);
            for (int p = 0; p < 4; p++) {
                t.due(t.x.changes(p, p), 0);
            }
            is(new Probe("ab;a", "").x.changes(1, 1), 0);
            // to come by it is not to STOP there
            Probe by = new Probe("bb;cc;-", "9:000;9:111");
            is(by.x.changes(0, 1), -2);
            is(by.x.changes(0, 2), 1);
        });
    }

    private static void changesRow() {
        edge("the ROW: THE FIRST and THE SECOND of each, one behind the other (the first 5 rides): of as few the least row.", () -> {
            Probe c = Probe.chain();
            c.due(c.x.changes(0, 1), 1, 0, 1);
            c.due(c.x.changes(0, 4), 4, 0, 1, 0, 1, 0, 1, 0, 1);
            c.due(c.x.changes(0, 5), 5, 0, 1, 0, 1, 0, 1, 0, 1, 0, 1);
            c.due(c.x.changes(0, 6), 6, 0, 1, 0, 1, 0, 1, 0, 1, 0, 1);
            Probe ring = new Probe("bb!;cc!;dd!;ee!;ff!;gg!;hh!;ii!;jj!;aa!", "1:0000000000;1:1111111111");
            ring.due(ring.x.changes(0, 9), 9, 0, 1, 0, 1, 0, 1, 0, 1, 0, 1);
            ring.due(ring.x.changes(5, 4), 9, 0, 1, 0, 1, 0, 1, 0, 1, 0, 1);
            // 0 and 1 come to an INN that leads nowhere
            Probe t = new Probe("bc;dd!;-!;-", "1:0000;1:1100");
            t.due(t.x.changes(0, 2), 1, 0, 1);
            t.due(t.x.changes(0, 3), 2, 1, 0, 0, 1);
            // at b they are 0 and 2, or 1 and 2, to go on; first come 0 and 1, as at a 0 and 2 are alike
            Probe u = new Probe("ab!;bd!;-;-", "1:0000;1:1000;1:0100");
            u.due(u.x.changes(0, 3), 2, 0, 1, 0, 2);
            // by b with 0 1 then 1 0, or by c with 1 0 then 0 1: from the first on
            Probe v = new Probe("cb;db!;cd!;-", "1:0000;1:1110");
            v.due(v.x.changes(0, 3), 2, 0, 1, 1, 0);
        });
        edge("-2: it can't; NONE: others.", () -> {
            Probe t = Probe.county();
            t.x.agree(0, 1);
            t.idle(() -> t.x.changes(0, 3), -2);
            t.idle(() -> t.x.changes(2, 0), -2);
            t.idle(() -> t.x.changes(3, 0), -2);
            is(new Probe("bb;a", "9:00").x.changes(0, 1), -2);
            is(new Probe("bb;a", "").x.changes(0, 1), -2);
            refusesNoPlaces(OfDifferentMinds::changes);
        });
    }

    private static void stations() {
        promise(26);
        edge("PLACES (bits) at which it can STOP, by such rides, however many;", () -> {
            Probe c = Probe.chain();
            is(c.x.stations(0), 255);
            is(c.x.stations(3), 248);
            is(c.x.stations(7), 384);
            is(c.x.stations(9), 512);
            // fresh, however they are
            c.journey("m01;r9");
            is(c.x.stations(0), 255);
            // ten rides round, till it STOPS where it began
            Probe ring = new Probe("bb!;cc!;dd!;ee!;ff!;gg!;hh!;ii!;jj!;aa!", "1:0000000000;1:1111111111");
            for (int p = 0; p < 10; p++) {
                is(ring.x.stations(p), 1023);
            }
            // where it begins is none, if it does not STOP there
            Probe two = new Probe("bb!;-", "9:00;9:11");
            is(two.x.stations(0), 2);
            // without two RIDERS there are no rides
            is(new Probe("bb!;-", "9:00").x.stations(0), 0);
            is(new Probe("bb!;-", "").x.stations(1), 0);
        });
        edge("the ROW: those that are no INNS.", () -> {
            Probe c = Probe.chain();
            c.due(c.x.stations(0), 255, 128);
            c.due(c.x.stations(7), 384, 384);
            Probe t = Probe.county();
            t.due(t.x.stations(0), 7, 5);
            t.due(t.x.stations(3), 8, 8);
            Probe inn = new Probe("-!", "9:0;9:1");
            inn.due(inn.x.stations(0), 1, 0);
        });
        edge("NONE: none such.", () -> {
            Probe t = Probe.county();
            t.x.agree(0, 1);
            for (int p : NO_PLACE) {
                t.idle(() -> t.x.stations(p), -1);
            }
        });
    }

    private static void foot() {
        promise(27);
        edge("The fewest WAYS by which one walks from a PLACE to another one, or the same: how many;", () -> {
            Probe t = Probe.county();
            is(t.x.foot(0, 0), 0);
            is(t.x.foot(3, 3), 0);
            is(t.x.foot(0, 1), 1);
            is(t.x.foot(2, 1), 2);
            Probe far = new Probe("b;c;d;e;f;g;h;i;j;a", "");
            is(far.x.foot(0, 9), 9);
            is(far.x.foot(9, 8), 9);
            is(far.x.foot(9, 0), 1);
            // no RIDERS are asked for, nor INNS
            is(far.x.count(1), 0);
        });
        edge("the ROW: their numbers (0 .. 2) in turn: of as few the least row.", () -> {
            Probe t = Probe.county();
            t.due(t.x.foot(1, 1), 0);
            t.due(t.x.foot(0, 2), 1, 1);
            t.due(t.x.foot(2, 1), 2, 0, 0);
            Probe u = new Probe("aab;ac;aad;ae;af;ag;ah;ai;aaj;-", "");
            u.due(u.x.foot(0, 9), 9, 2, 1, 2, 1, 1, 1, 1, 1, 2);
            // two WAYS to the same PLACE: the lesser; two PLACES: from the first on
            Probe v = new Probe("acb;add;da;-", "");
            v.due(v.x.foot(0, 3), 2, 1, 0);
            Probe w = new Probe("abc;aad;d;-", "");
            w.due(w.x.foot(0, 3), 2, 1, 2);
        });
        edge("-2: one can't; NONE: others.", () -> {
            Probe t = Probe.county();
            t.x.agree(0, 1);
            t.idle(() -> t.x.foot(3, 0), -2);
            t.idle(() -> t.x.foot(0, 3), -2);
            refusesNoPlaces(OfDifferentMinds::foot);
        });
    }

    private static void record() {
        promise(28);
        edge("The most STEPS (200 at most) that two RIDERS (as they are) ride from a PLACE: how many;", () -> {
            Probe t = Probe.county();
            is(t.x.record(0), 3);
            is(t.x.record(1), 5);
            is(t.x.record(3), 0);
            // 1 has 1 MIND left: it is CONVINCED by its first STEP, whoever rides with it
            t.journey("m10;r2;d");
            is(t.x.record(0), 1);
            is(Probe.stubborn().x.record(0), 200);
            is(new Probe("aa", "99:0;99:1").x.record(0), 99);
        });
        edge("the ROW: THE FIRST, THE SECOND (of as good ones the least row), how many pairs (in both orders) ride as many.", () -> {
            Probe t = Probe.county();
            t.due(t.x.record(0), 3, 1, 0, 1);
            t.due(t.x.record(2), 0, 0, 1, 6);
            t.due(t.x.record(1), 5, 0, 2, 2);
            Probe two = new Probe("aa", "5:0;5:0;5:1");
            two.due(two.x.record(0), 5, 0, 2, 4);
            Probe s = Probe.stubborn();
            s.due(s.x.record(0), 200, 0, 1, 4);
        });
        edge("-2: there are fewer than two; NONE: none such.", () -> {
            Probe one = new Probe("aa", "9:0");
            one.idle(() -> one.x.record(0), -2);
            one.idle(() -> one.x.record(1), -1);
            Probe nobody = new Probe("aa", "");
            nobody.idle(() -> nobody.x.record(0), -2);
            one.riders("9:0");
            one.due(one.x.record(0), 0, 0, 1, 2);
            Probe t = Probe.county();
            for (int p : NO_PLACE) {
                t.idle(() -> t.x.record(p), -1);
            }
        });
    }

    /** 0 and 3 are convinced by 2: 0 or 3 with 1 or 4 disagree for ever, 2 with 1 or 4 for 2 STEPS. */
    private static Probe twoEndless() {
        Probe t = new Probe("aa!", "1:0;2:0;9:1;1:0;2:0");
        t.journey("m20;r1;d;m23;r1;d");
        return t;
    }

    private static void matches() {
        promise(29);
        edge("RIDERS told as bits are parted in pairs (one is left over, if they are odd; the lesser number is THE FIRST)", () -> {
            Probe t = Probe.county();
            t.due(t.x.matches(7, 0), 2, -1, 2, 1);
            t.due(t.x.matches(0, 0), 0, -1, -1, -1);
            t.due(t.x.matches(1, 0), 0, -1, -1, -1);
            t.due(t.x.matches(4, 0), 0, -1, -1, -1);
            // 0 and 1 ride 1 STEP, 1 and 0 would ride 3
            t.due(t.x.matches(3, 0), 1, 1, 0, -1);
            t.due(t.x.matches(6, 0), 2, -1, 2, 1);
            // none but one is left over, though they ride no STEP
            t.due(t.x.matches(3, 3), 0, 1, 0, -1);
            t.due(t.x.matches(7, 3), 0, -1, 2, 1);
            Probe nobody = new Probe("aa", "");
            nobody.due(nobody.x.matches(0, 0), 0);
        });
        edge("who ride from a PLACE, each pair as they are: the most STEPS in all (200 at most each): how many;", () -> {
            Probe t = Probe.county();
            is(t.x.matches(5, 1), 5);
            is(t.x.matches(5, 0), 0);
            t.journey("m10;r2;d");
            is(t.x.matches(6, 0), 1);
            Probe u = twoEndless();
            is(u.x.matches(27, 0), 400);
            is(u.x.matches(31, 0), 400);
            is(u.x.matches(3, 0), 200);
            is(u.x.matches(9, 0), 0);
            is(u.x.matches(23, 0), 202);
            // the most in all, not the farthest pair first: 9 and 5 ride 5, the rest 1 and none
            Probe v = new Probe("aa", "5:0;4:0;3:0;2:1;1:1;9:1");
            is(v.x.matches(63, 0), 8);
        });
        edge("the ROW: for each RIDER with whom (NONE): of as good ones the least row.", () -> {
            Probe u = twoEndless();
            u.due(u.x.matches(27, 0), 400, 1, 0, -1, 4, 3);
            u.due(u.x.matches(31, 0), 400, 1, 0, -1, 4, 3);
            u.due(u.x.matches(18, 0), 0, -1, 4, -1, -1, 1);
            Probe v = new Probe("aa", "5:0;4:0;3:0;2:1;1:1;9:1");
            v.due(v.x.matches(63, 0), 8, 5, 3, 4, 1, 2, 0);
            v.due(v.x.matches(7, 0), 0, -1, 2, 1, -1, -1, -1);
            v.due(v.x.matches(15, 0), 2, 1, 0, 3, 2, -1, -1);
            v.due(v.x.matches(31, 0), 3, -1, 3, 4, 1, 2, -1);
        });
        edge("NONE: others.", () -> {
            Probe t = Probe.county();
            t.x.agree(0, 1);
            for (int those : new int[] {8, 9, 15, 64, -1, -8, Integer.MAX_VALUE, Integer.MIN_VALUE}) {
                t.idle(() -> t.x.matches(those, 0), -1);
            }
            for (int p : NO_PLACE) {
                t.idle(() -> t.x.matches(7, p), -1);
                t.idle(() -> t.x.matches(0, p), -1);
            }
            Probe six = new Probe("aa", "1:0;1:0;1:0;1:0;1:0;1:0");
            is(six.x.matches(63, 0), 0);
            six.idle(() -> six.x.matches(64, 0), -1);
        });
    }

    private static void partner() {
        promise(30);
        edge("The other one with whom one as THE FIRST rides the farthest from a PLACE (200 at most); of equal ones the first: it;"
            + " the ROW: how many STEPS.", () -> {
            Probe t = Probe.county();
            t.due(t.x.partner(1, 0), 0, 3);
            t.due(t.x.partner(0, 0), 1, 1);
            t.due(t.x.partner(0, 1), 2, 5);
            t.due(t.x.partner(0, 3), 1, 0);
            t.due(t.x.partner(1, 3), 0, 0);
            t.due(t.x.partner(2, 3), 0, 0);
            Probe u = twoEndless();
            u.due(u.x.partner(0, 0), 1, 200);
            u.due(u.x.partner(4, 0), 0, 200);
            u.due(u.x.partner(2, 0), 1, 2);
        });
        edge("-2: there is none; NONE: none such.", () -> {
            Probe one = new Probe("aa", "9:0");
            one.idle(() -> one.x.partner(0, 0), -2);
            one.idle(() -> one.x.partner(1, 0), -1);
            one.idle(() -> one.x.partner(0, 1), -1);
            Probe t = Probe.county();
            t.x.agree(0, 1);
            for (int r : NO_RIDER) {
                t.idle(() -> t.x.partner(r, 0), -1);
            }
            for (int p : NO_PLACE) {
                t.idle(() -> t.x.partner(0, p), -1);
            }
        });
    }

    private static void agree() {
        promise(31);
        edge("PLACES (bits) at which the VIEWS of two unlike RIDERS are alike (or where there are no WAYS);"
            + " the ROW: how many there are.", () -> {
            Probe t = Probe.county();
            t.due(t.x.agree(0, 1), 12, 2);
            t.due(t.x.agree(1, 0), 12, 2);
            t.due(t.x.agree(0, 2), 13, 3);
            // digits 0 and 2 are alike where there are two WAYS, any where there is one
            Probe u = new Probe("ab;abc;a;-", "1:0000;1:2222");
            u.due(u.x.agree(0, 1), 13, 3);
            Probe no = new Probe("ab;ba", "1:00;1:11");
            no.due(no.x.agree(0, 1), 0, 0);
            // by the MAPS that they go by
            Probe s = Probe.stubborn();
            s.due(s.x.agree(0, 2), 7, 3);
            s.due(s.x.agree(0, 1), 6, 2);
        });
        edge("NONE: others.", EdgesOfQuestionsTest::refusesTwo);
    }

    private static void refusesTwo() {
        Probe t = Probe.county();
        t.x.agree(0, 1);
        for (int r : NO_RIDER) {
            t.idle(() -> t.x.agree(r, 0), -1);
            t.idle(() -> t.x.agree(0, r), -1);
            t.idle(() -> t.x.agree(r, r), -1);
        }
        t.idle(() -> t.x.agree(2, 2), -1);
    }

    private static void convinces() {
        promise(32);
        edge("Who convinces whom in a ride of two unlike RIDERS from a PLACE: the one that is CONVINCED first;"
            + " the ROW: after how many STEPS, MIND that the other one has left then.", () -> {
            Probe t = Probe.county();
            t.due(t.x.convinces(1, 0, 0), 1, 3, 9);
            t.due(t.x.convinces(0, 2, 1), 2, 5, 9);
            Probe u = new Probe("aa", "3:0;3:1;99:0");
            u.due(u.x.convinces(0, 1, 0), 1, 3, 3);
            u.due(u.x.convinces(1, 0, 0), 0, 3, 3);
            u.due(u.x.convinces(2, 1, 0), 1, 3, 99);
            // as they are
            u.journey("m12;r2;d");
            u.due(u.x.convinces(0, 1, 0), 1, 1, 3);
            // the ride may go on behind it
            Probe v = Probe.carriedOn();
            v.due(v.x.convinces(0, 1, 0), 1, 2, 8);
            v.due(v.x.convinces(1, 0, 0), 1, 2, 8);
            Probe most = new Probe("aa", "99:0;99:1");
            most.due(most.x.convinces(0, 1, 0), 1, 99, 99);
        });
        edge("-2: nobody (it STOPS ahead of that, or not in 200); NONE: others.", () -> {
            Probe t = Probe.county();
            t.x.agree(0, 1);
            t.idle(() -> t.x.convinces(0, 1, 0), -2);
            t.idle(() -> t.x.convinces(0, 2, 0), -2);
            t.idle(() -> t.x.convinces(0, 1, 3), -2);
            Probe s = Probe.stubborn();
            s.x.agree(0, 1);
            // both are CONVINCED already, and ride on for ever
            s.idle(() -> s.x.convinces(0, 1, 0), -2);
            refusesOthers(OfDifferentMinds::convinces);
        });
    }

    private static void claim() {
        promise(33);
        edge("VIEWS (bits 0 .. 2) that one of the two on THE HORSE (0: THE FIRST, 1: THE SECOND) may claim in the next STEP,"
            + " so that it goes by a WAY (the other one's VIEW as it is).", () -> {
            Probe t = new Probe("abc;a;a", "9:000;7:100");
            t.x.mount(0, 1);
            int[][] first = {{0, 4}, {1, 0}, {2, 1}};
            int[][] second = {{0, 0}, {1, 4}, {2, 2}};
            for (int way = 0; way < 3; way++) {
                is(t.x.claim(0, first[way][0]), first[way][1]);
                is(t.x.claim(1, second[way][0]), second[way][1]);
            }
            // to be of one mind is to go by no WAY
            t.rule("2");
            is(t.x.claim(0, 2), 5);
            is(t.x.claim(1, 2), 6);
            is(t.x.claim(0, 0), 0);
            // m, n and s as they are in this ride
            t.rule("(s=0)*(m=9)*(n=7)");
            is(t.x.claim(0, 1), 5);
            Probe on = new Probe("abc;abc;abc", "9:000;7:111");
            on.x.mount(0, 1);
            on.x.ride(1);
            on.rule("(s=1)*(m=9)*(n=6)");
            is(on.x.claim(0, 1), 5);
            // no VIEWS that there are no WAYS for
            Probe two = new Probe("ab;a", "9:00;7:10");
            two.rule("1");
            two.x.mount(0, 1);
            is(two.x.claim(0, 1), 1);
            is(two.x.claim(1, 1), 2);
            Probe one = new Probe("a", "9:0;7:1");
            one.x.mount(0, 1);
            is(one.x.claim(0, 0), 0);
            // the two may be of one mind: one of them need not say so
            Probe alike = Probe.county();
            alike.x.mount(0, 2);
            is(alike.x.claim(0, 0), 2);
            is(alike.x.claim(1, 1), 2);
        });
        edge("-2: nobody is on it, no such WAY; NONE: others.", () -> {
            Probe t = Probe.county();
            t.idle(() -> t.x.claim(0, 0), -2);
            t.idle(() -> t.x.claim(1, 9), -2);
            for (int round = 0; round < 2; round++) {
                for (int which : new int[] {2, -1, Integer.MAX_VALUE, Integer.MIN_VALUE}) {
                    t.idle(() -> t.x.claim(which, 0), -1);
                    t.idle(() -> t.x.claim(which, 9), -1);
                }
                t.x.mount(0, 1);
            }
            for (int way : new int[] {2, 3, -1, Integer.MAX_VALUE, Integer.MIN_VALUE}) {
                t.idle(() -> t.x.claim(0, way), -2);
                t.idle(() -> t.x.claim(1, way), -2);
            }
            Probe nowhere = new Probe("-", "9:0;9:1");
            nowhere.x.mount(0, 1);
            nowhere.idle(() -> nowhere.x.claim(0, 0), -2);
            Probe none = new Probe();
            none.riders("9:;9:");
            none.x.mount(0, 1);
            none.idle(() -> none.x.claim(0, 0), -2);
        });
    }

    private static void lie() {
        promise(34);
        edge("The VIEW that one had best claim in the next STEP, so that THE HORSE comes to a PLACE by the fewest STEPS"
            + " (that one first, both by VIEWS from then on): it (of equal ones the least); the ROW: how many STEPS.", () -> {
            Probe t = new Probe("abc;cba;baa", "9:000;7:111");
            t.x.mount(0, 1);
            t.due(t.x.lie(0, 2), 0, 1);
            t.due(t.x.lie(1, 1), 2, 1);
            // where it is it comes to by one STEP at least
            t.due(t.x.lie(0, 0), 2, 1);
            t.due(t.x.lie(1, 0), 1, 2);
            t.rule("2");
            t.due(t.x.lie(0, 2), 0, 1);
            t.due(t.x.lie(1, 2), 1, 1);
            // 0 would come to d by 2 STEPS by b; claiming 2 it comes there at once
            Probe u = new Probe("bcd;dd;bb;-", "9:0000;7:1111");
            u.x.mount(0, 1);
            u.rule("a");
            u.due(u.x.lie(0, 3), 2, 1);
            u.due(u.x.lie(0, 1), 0, 1);
            u.due(u.x.lie(1, 1), 1, 1);
            u.due(u.x.lie(0, 2), -2, 1);
            Probe s = Probe.stubborn();
            s.x.mount(0, 1);
            s.rule("s=199");
            s.due(s.x.lie(0, 2), 1, 200);
            // MINDS wear down by it too: 1 of MIND 1 is CONVINCED by the STEP, and they stay
            Probe w = new Probe("bb;cc;-", "9:000;1:110");
            w.x.mount(0, 1);
            w.due(w.x.lie(1, 1), 1, 1);
            is(w.x.lie(1, 2), -2);
        });
        edge("-2: by none in 200; nobody is on it; NONE: others.", () -> {
            Probe t = Probe.county();
            t.x.agree(0, 1);
            t.idle(() -> t.x.lie(0, 0), -2);
            t.idle(() -> t.x.lie(1, 3), -2);
            for (int round = 0; round < 2; round++) {
                for (int which : new int[] {2, -1, Integer.MAX_VALUE, Integer.MIN_VALUE}) {
                    t.idle(() -> t.x.lie(which, 0), -1);
                }
                for (int p : NO_PLACE) {
                    t.idle(() -> t.x.lie(0, p), -1);
                    t.idle(() -> t.x.lie(1, p), -1);
                }
                t.x.mount(0, 1);
            }
            t.idle(() -> t.x.lie(0, 1), -2);
            t.idle(() -> t.x.lie(0, 3), -2);
            Probe s = Probe.stubborn();
            s.x.mount(0, 1);
            s.rule("s=200");
            s.idle(() -> s.x.lie(0, 2), -2);
            s.idle(() -> s.x.lie(1, 2), -2);
            Probe nowhere = new Probe("-", "9:0;9:1");
            nowhere.x.mount(0, 1);
            nowhere.idle(() -> nowhere.x.lie(0, 0), -2);
            Probe none = new Probe();
            none.riders("9:;9:");
            none.x.mount(0, 1);
            none.idle(() -> none.x.lie(0, 0), -1);
        });
    }
}

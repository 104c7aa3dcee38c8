import java.util.Arrays;
import java.util.function.IntSupplier;

/** Edges of the Terms: places, riders, THE RULE, a STEP, the ROW, refused calls. */
public final class EdgesOfTermsTest extends Edges {
    public static void main(String[] args) {
        terms();
        places();
        roadsText();
        riders();
        ridersText();
        ruleText();
        ruleValues();
        step();
        rows();
        looking();
        refused();
        finishEdges();
    }

    private static void places() {
        edge("PLACES 0 .. (at most 10; written a .. j)", () -> {
            Probe t = new Probe();
            is(t.roads("j;a;a;a;a;a;a;a;a;ai"), 10);
            is(t.x.place(0, 1), 9);
            is(t.x.place(9, 1), 0);
            is(t.x.place(9, 2), 8);
            none(() -> t.x.place(10, 0));
            fault(20, t.roads("a;a;a;a;a;a;a;a;a;a;a"));
            fault(0, t.roads("k"));
            fault(0, t.roads("`"));
            fault(0, t.roads("A"));
            fault(0, t.roads("0"));
            // k is no letter of a PLACE, even where j is one of a PLACE that is not told
            fault(1, t.roads("jk"));
            is(t.x.count(0), 10);
        });
        edge("WAYS 0, 1, 2 (none to three of them) to PLACES; an INN or not", () -> {
            Probe t = new Probe();
            is(t.roads("-;b;ab!;dbc"), 4);
            for (int p = 0; p < 4; p++) {
                is(t.x.place(p, 0), p);
                is(t.x.place(p, 4), p == 2 ? 1 : 0);
            }
            is(t.x.place(3, 1), 3);
            is(t.x.place(3, 2), 1);
            is(t.x.place(3, 3), 2);
            is(t.x.place(2, 3), -1);
            fault(3, t.roads("aaaa"));
        });
        edge("THE HORSE is at a PLACE (at first 0), with nobody on it, or two unlike RIDERS (THE FIRST, THE SECOND)", () -> {
            Probe t = Probe.county();
            is(t.x.count(2), 0);
            is(t.x.count(3), -1);
            is(t.x.count(4), -1);
            is(t.x.mount(1, 1), -1);
            is(t.x.count(3), -1);
            is(t.x.mount(2, 0), 0);
            is(t.x.count(3), 2);
            is(t.x.count(4), 0);
        });
    }

    private static void roadsText() {
        edge("THE ROADS are told by a text of at most 76 signs", () -> {
            Probe t = new Probe();
            String most = "abc!;abc!;abc!;abc!;abc!;abc!;abc!;abc!;abc!;abc!";
            is(t.roads(most), 10);
            // ten LINES have 49 signs at most: whatever is longer has an eleventh one, long before the 76th sign
            for (int more = 0; more <= 30; more++) {
                fault(50, t.roads((most + ";" + most).substring(0, 50 + more)));
            }
        });
        edge("LINES with ; between, each a PLACE, from 0 on:", () -> {
            Probe t = new Probe();
            is(t.roads("b;-;ab"), 3);
            is(t.x.place(0, 0), 1);
            is(t.x.place(1, 0), 0);
            is(t.x.place(2, 0), 2);
            fault(0, t.roads(";a"));
            fault(2, t.roads("a;"));
            fault(2, t.roads("a;;a"));
            fault(1, t.roads("a,a"));
            fault(1, t.roads("a:a"));
        });
        edge("- (no WAYS), or one to three letters (where they lead: PLACES that are told in this text, also behind it),"
            + " then perhaps ! (an INN).", () -> {
            Probe t = new Probe();
            is(t.roads("c!;-!;b"), 3);
            is(t.x.place(0, 1), 2);
            is(t.x.place(1, 0), 0);
            is(t.x.count(7), 3);
            is(t.roads("-"), 1);
            is(t.roads("aaa"), 1);
            Object[][] faults = {{"!", 0}, {"-a", 1}, {"--", 1}, {"a-", 1}, {"a!a", 2}, {"a!!", 2}, {"-!!", 2}, {"aaa!a", 4}};
            for (Object[] f : faults) {
                fault((int) f[1], t.roads((String) f[0]));
            }
        });
    }

    private static void riders() {
        edge("RIDERS 0 .. (at most 6)", () -> {
            Probe t = new Probe("ab;a", "1:00;2:00;3:00;4:00;5:00;6:00");
            is(t.x.rider(5, 0), 6);
            none(() -> t.x.rider(6, 0));
            fault(0, t.riders("7:00"));
            is(t.x.count(1), 6);
            sixAndTen();
        });
        edge("MIND 1 .. 99 (how much it holds out)", () -> {
            Probe t = new Probe("aa", "1:0;99:1;99:0");
            t.due(t.x.stops(0, 1, 0), 1, 0, 1, 0);
            t.due(t.x.stops(1, 0, 0), 1, 0, 1, 0);
            t.due(t.x.stops(1, 2, 0), 99, 0, 1, 2);
        });
        edge("SPENT (0 .. MIND; at first 0), a PLACE (at first 0), a MAP", () -> {
            Probe t = new Probe("ab;ba", "2:00;9:11");
            t.journey("m01;r9;d;l01");
            is(t.x.rider(0, 1), 2);
            is(t.x.count(2), 1);
            t.riders("5:00");
            is(t.x.rider(2, 1), 0);
            is(t.x.rider(2, 2), 0);
            t.roads("ab;ba");
            t.riders("3:00;9:11");
            is(t.x.rider(0, 1), 0);
            is(t.x.rider(0, 2), 0);
            is(t.x.rider(0, 3), -1);
            is(t.x.stops(0, 1, 0), 3);
        });
        edge("for each PLACE a digit 0 .. 2; its VIEW there: that digit % how many WAYS there are", () -> {
            Probe t = new Probe("a;ab;abc;-", "1:0000;1:1111;1:2222");
            int[][] views = {{0, 0, 0, -2}, {0, 1, 1, -2}, {0, 0, 2, -2}};
            for (int r = 0; r < 3; r++) {
                for (int p = 0; p < 4; p++) {
                    is(t.x.view(r, p), views[r][p]);
                }
            }
            fault(2, t.riders("1:3000"));
        });
        edge("CONVINCED by another one, or not (then its VIEWS are those of that one's MAP)", () -> {
            Probe t = Probe.stubborn();
            is(t.x.rider(1, 3), 0);
            is(t.x.rider(0, 3), 2);
            is(t.x.rider(2, 3), -1);
            is(t.x.view(1, 0), 0);
            is(t.x.view(0, 0), 1);
            is(t.x.view(2, 0), 1);
        });
    }

    /** Six RIDERS and ten PLACES, of which each has its own. */
    private static void sixAndTen() {
        Probe t = new Probe("bb!;cc;dd;ee;ff;gg;hh;ii;jj;aa!", "1:0000000000;2:1111111111;3:2222222222");
        t.riders("4:0120120120;5:1121100000;6:2012012012");
        t.journey("w00;w10;w10;w20;w20;w20;w30;w30;w30;w30");
        t.journey("m54;r5");
        t.journey("w30;w30;w30;w30;w30");
        int[] spent = {0, 0, 0, 0, 5, 0};
        int[] places = {1, 2, 3, 9, 5, 5};
        int[] by = {-1, -1, -1, -1, 5, -1};
        int[][] views = {
            {0, 0, 0, 0, 0, 0, 0, 0, 0, 0}, {1, 1, 1, 1, 1, 1, 1, 1, 1, 1}, {0, 0, 0, 0, 0, 0, 0, 0, 0, 0},
            {0, 1, 0, 0, 1, 0, 0, 1, 0, 0}, {0, 0, 1, 0, 0, 1, 0, 0, 1, 0}, {0, 0, 1, 0, 0, 1, 0, 0, 1, 0}};
        for (int r = 0; r < 6; r++) {
            is(t.x.rider(r, 0), r + 1);
            is(t.x.rider(r, 1), spent[r]);
            is(t.x.rider(r, 2), places[r]);
            is(t.x.rider(r, 3), by[r]);
            is(t.x.rider(r, 5), r > 3 ? 1 : 0);
            for (int p = 0; p < 10; p++) {
                is(t.x.view(r, p), views[r][p]);
            }
        }
        is(t.x.count(2), 5);
        is(t.x.count(3), 5);
        is(t.x.count(4), 4);
        is(t.x.count(5), 5);
        is(t.x.count(6), 16);
    }

    private static void ridersText() {
        edge("RIDERS are told by a text of at most 76 signs", () -> {
            Probe t = new Probe("a;a;a;a;a;a;a;a;a", "");
            String five = "99:000000000;99:000000000;99:000000000;99:000000000;99:000000000;";
            fault(76, t.riders(five + "99:000000000"));
            is(t.x.count(1), 0);
            is((five + "9:000000000").length(), 76);
            is(t.riders(five + "9:000000000"), 6);
        });
        edge("LINES with ; between, each one more: MIND (1 or 2 digits, not 0), :, a digit 0 .. 2 for each PLACE.", () -> {
            Probe t = new Probe("ab;a", "");
            is(t.riders("1:00"), 1);
            is(t.riders("01:02;10:20"), 2);
            is(t.riders("3:11"), 1);
            int[] minds = {1, 1, 10, 3};
            for (int r = 0; r < 4; r++) {
                is(t.x.rider(r, 0), minds[r]);
            }
            Object[][] faults = {
                {":00", 0}, {"x:00", 0}, {"/:00", 0}, {"100:00", 2}, {"0:00", 0}, {"00:00", 1}, {"1;00", 1}, {"1", 1},
                {"1:0", 3}, {"1:000", 4}, {"1:0;", 3}, {"1:03", 3}, {"1:/0", 2}, {"1::00", 2}, {";1:00", 0}, {"1:00;", 5},
                {"1:00;;1:00", 5}, {"1:00,1:00", 4}};
            for (Object[] f : faults) {
                fault((int) f[1], t.riders((String) f[0]));
            }
            is(t.x.count(1), 4);
            // no PLACES, no digits
            Probe nowhere = new Probe();
            is(nowhere.riders("1:;2:"), 2);
            fault(2, nowhere.riders("1:0"));
        });
    }

    /** The WAY by a RULE, of k, of two VIEWS; THE FIRST has 9 MIND left, THE SECOND 7. */
    private static int goes(String rule, int a, int b, int k) {
        Probe t = new Probe(k == 2 ? "ab;a;a" : "abc;a;a", "9:" + a + "00;7:" + b + "00");
        is(t.rule(rule), 0);
        t.x.mount(0, 1);
        return t.x.where(1);
    }

    private static void way(String rule, int want) {
        is(goes(rule, 0, 1, 3), want);
    }

    private static void ruleFaults(Object[][] faults) {
        Probe t = new Probe();
        for (Object[] f : faults) {
            fault((int) f[1], t.rule((String) f[0]));
        }
    }

    private static String forty() {
        return "-a" + "+0".repeat(19);
    }

    private static void ruleText() {
        edge("THE RULE is a text of at most 40 signs (at first none: k-a-b+(k=2)*a).", () -> {
            Probe t = new Probe();
            is(forty().length(), 40);
            is(t.rule(forty()), 0);
            fault(40, t.rule(forty() + "0"));
            fault(40, t.rule(forty() + "+"));
            fault(40, t.rule(forty() + "x"));
            for (int a = 0; a < 3; a++) {
                for (int b = 0; b < 3; b++) {
                    if (a != b) {
                        is(goes("", a, b, 3), 3 - a - b);
                        is(goes("k-a-b+(k=2)*a", a, b, 3), 3 - a - b);
                    }
                    if (a != b && a < 2 && b < 2) {
                        is(goes("", a, b, 2), b);
                        is(goes("k-a-b+(k=2)*a", a, b, 2), b);
                    }
                }
            }
        });
        edge("< > = bind least (two; 1 or 0; not one behind the other)", () -> {
            way("1+1>1", 1);
            way("2<1+1", 0);
            way("2=1+1", 1);
            way("2*1<3", 1);
            way("2>2", 0);
            way("2<2", 0);
            way("2=2", 1);
            way("2=1", 0);
            way("1>2", 0);
            way("2<1", 0);
            way("-1<0", 1);
            way("(2>1)+(1<2)", 2);
            way("(1<2)=(2>1)", 1);
            ruleFaults(new Object[][] {
                {"a<b<k", 3}, {"a=b>k", 3}, {"a>b=k", 3}, {"a=b=k", 3}, {"(a<b>k)", 4}, {"a<b+1=k", 5}, {"a<", 2}, {"<a", 0},
                {"a<>b", 2}, {"a<=b", 2}, {"(a<b)<k=s", 7}});
        });
        edge("then + - (from the left)", () -> {
            way("5-2-1", 2);
            way("5-3+1", 0);
            way("1+1-3", 2);
            ruleFaults(new Object[][] {{"+a", 0}, {"a+", 2}, {"a-", 2}, {"a++b", 2}, {"a-+b", 2}});
        });
        edge("then * / (from the left; by 0: 0; cut to 0)", () -> {
            way("12/4*3", 0);
            way("20/4/2", 2);
            way("7*3/4", 2);
            way("1+1*2", 0);
            way("4-4/2", 2);
            way("7/0", 0);
            way("7/0+1", 1);
            way("7/(a-a)+2", 2);
            way("0/0+1", 1);
            way("7/2", 0);
            way("-7/2", 0);
            way("7/-2", 0);
            way("-7/-2", 0);
            way("-5/3", 2);
            way("1/2", 0);
            way("-1/2", 0);
            ruleFaults(new Object[][] {{"*a", 0}, {"a*", 2}, {"a/", 2}, {"a*/b", 2}, {"a%b", 1}});
        });
        edge("then - ahead of a thing (any many);", () -> {
            way("-1", 2);
            way("--1", 1);
            way("-".repeat(39) + "1", 2);
            way("-".repeat(38) + "1", 1);
            way("2*-1", 1);
            way("2--1", 0);
            way("-2+1", 2);
            way("-(1=1)", 2);
            way("-k-b", 2);
            ruleFaults(new Object[][] {{"-", 1}, {"--", 2}, {"-)", 1}, {"-".repeat(40), 40}, {"-".repeat(40) + "1", 40}});
        });
        edge("things: a NUMBER of 1 to 3 digits,", () -> {
            way("1", 1);
            way("10", 1);
            way("100", 1);
            way("998", 2);
            way("999", 0);
            way("000", 0);
            way("002", 2);
            way("02", 2);
            ruleFaults(new Object[][] {{"1000", 3}, {"0000", 3}, {"a+1000", 5}, {"1a", 1}, {"1 ", 1}, {".1", 0}});
        });
        edge("an EXPRESSION in ( ) (at most 4 in one another):", () -> {
            way("((((1))))", 1);
            way("((((1))))+((((1))))", 2);
            way("((((1)))+(((1))))", 2);
            way("((((1))))*(2)", 2);
            way("(1+1)*2", 1);
            ruleFaults(new Object[][] {
                {"(((((1)))))", 4}, {"((((1+(1)))))", 6}, {"(1", 2}, {"(", 1}, {"()", 1}, {"(1))", 3}, {"((((1)))", 8}, {")", 0},
                {"(1)(1)", 3}, {"1(1)", 1}, {"(1)1", 3}});
        });
    }

    private static void ruleValues() {
        edge("a VIEW of THE FIRST, b of THE SECOND, k how many WAYS there are, p the PLACE, s STEPS of this ride so far,"
            + " m how much MIND THE FIRST has left (MIND less SPENT), n THE SECOND.", () -> {
            Probe t = new Probe("a;a;a;a;abc", "9:00001;7:00002");
            t.rule("(a=1)*(b=2)*(k=3)*(p=4)*(s=0)*2");
            is(t.x.reaches(0, 1, 4, 2), 1);
            t.rule("(m=9)*(n=7)*2");
            is(t.x.reaches(0, 1, 4, 2), 1);
            t.rule("(a=2)*(b=1)*(m=7)*(n=9)*2");
            is(t.x.reaches(1, 0, 4, 2), 1);
            Probe u = new Probe("abc;abc;abc", "9:000;7:111");
            u.x.mount(0, 1);
            u.rule("(s=0)*(m=9)*(n=7)*2");
            is(u.x.ride(1), 1);
            is(u.x.count(2), 2);
            u.rule("(s=1)*(m=9)*(n=6)");
            is(u.x.ride(1), 1);
            is(u.x.count(2), 1);
            for (char sign = 0; sign < 256; sign++) {
                boolean thing = "abkpsmn0123456789".indexOf(sign) >= 0;
                boolean begun = "-(".indexOf(sign) >= 0;
                is(u.rule("" + sign), thing ? 0 : begun ? -2 : -1);
            }
        });
        edge("As ints;", () -> {
            way("256*256*256*128", Math.floorMod(Integer.MIN_VALUE, 3));
            way("256*256*256*128<0", 1);
            way("256*256*256*128/-1<0", 1);
            way("-(256*256*256*128)<0", 1);
            way("256*256*256*128-1>0", 1);
            way("999*999*999*999", Math.floorMod(999 * 999 * 999 * 999, 3));
            way("-999*999*999*999-1", Math.floorMod(-999 * 999 * 999 * 999 - 1, 3));
        });
        edge("what is left of it divided by k (0 at least: k more, if it is below 0) is the WAY.", () -> {
            int[] ways = {2, 0, 1, 2, 0, 1, 2, 0, 1};
            for (int v = -4; v <= 4; v++) {
                way("" + v, ways[v + 4]);
            }
            is(goes("-1", 0, 1, 2), 1);
            is(goes("-2", 0, 1, 2), 0);
            is(goes("2", 0, 1, 2), 0);
            is(goes("3", 0, 1, 2), 1);
        });
    }

    private static void step() {
        edge("A STEP: THE HORSE has two on it; if there are no WAYS, or both VIEWS are alike: it STOPS (no STEP).", () -> {
            Probe t = Probe.county();
            t.due(t.x.stops(0, 1, 3), 0, 3, 0, -1);
            t.due(t.x.stops(0, 2, 0), 0, 0, 1, -1);
            t.x.mount(0, 2);
            t.due(t.x.ride(5), 0, 0, 1, -1);
            is(t.x.count(5), 0);
            is(t.x.rider(0, 1) + t.x.rider(2, 1), 0);
            // digits that are unlike, VIEWS that are not
            Probe one = new Probe("a", "9:0;9:1");
            one.due(one.x.stops(0, 1, 0), 0, 0, 1, -1);
            Probe two = new Probe("aa", "9:0;9:2");
            two.due(two.x.stops(0, 1, 0), 0, 0, 1, -1);
        });
        edge("Else it goes by the WAY that THE RULE tells, both with it.", () -> {
            Probe t = Probe.county();
            t.x.mount(1, 0);
            is(t.x.ride(1), 1);
            is(t.x.count(2), 1);
            is(t.x.rider(1, 2), 1);
            is(t.x.rider(0, 2), 1);
            is(t.x.rider(2, 2), 0);
            t.rule("0");
            is(t.x.ride(1), 1);
            is(t.x.count(2), 2);
        });
        edge("Then the one of the two who has less MIND left (of equal ones THE SECOND) has SPENT 1 more (MIND at most),"
            + " unless it is CONVINCED;", () -> {
            wears("5:0;4:1", "m01;r1", 0, 1);
            wears("5:0;4:1", "m10;r1", 0, 1);
            wears("5:0;5:1", "m01;r1", 0, 1);
            wears("5:0;5:1", "m10;r1", 1, 0);
            wears("5:0;6:1", "m01;r3", 3, 0);
            lessLeftNotLessMind();
            mindAtMost();
            convincedOnesSpendNothing();
        });
        edge("if it has none left by that, it is CONVINCED by the other one.", () -> {
            Probe t = Probe.county();
            t.x.mount(1, 0);
            t.x.ride(2);
            is(t.x.rider(1, 1), 2);
            is(t.x.rider(1, 3), -1);
            t.x.ride(1);
            is(t.x.rider(1, 1), 3);
            is(t.x.rider(1, 3), 0);
            is(t.x.rider(0, 3), -1);
            Probe second = new Probe("aa", "1:0;1:1");
            second.journey("m01;r9");
            is(second.x.rider(1, 3), 0);
            is(second.x.rider(0, 3), -1);
        });
    }

    /** What RIDERS 0 and 1 have SPENT by a journey to and fro at one PLACE of two WAYS. */
    private static void wears(String riders, String journey, int first, int second) {
        Probe t = new Probe("aa", riders);
        t.journey(journey);
        is(t.x.rider(0, 1), first);
        is(t.x.rider(1, 1), second);
    }

    private static void lessLeftNotLessMind() {
        Probe t = new Probe("aa", "3:0;9:1");
        t.journey("m01;r2");
        t.x.sheet(2, 2, 9, 0);
        t.x.ride(1);
        is(t.x.rider(0, 1), 3);
        is(t.x.rider(1, 1), 0);
        t.x.sheet(2, 2, 9, -4);
        // 6 left against 5: less MIND, but it is the second that has less left
        is(t.x.ride(1), 1);
        is(t.x.rider(0, 1), 3);
        is(t.x.rider(1, 1), 1);
    }

    private static void mindAtMost() {
        Probe t = new Probe("aa", "3:0;9:1");
        t.journey("m01;r2");
        t.x.sheet(2, 2, 1, 8);
        is(t.x.rider(0, 1), 1);
        is(t.x.rider(0, 3), -1);
        t.due(t.x.ride(1), 1, 0, 0, 0);
        is(t.x.rider(0, 1), 1);
        is(t.x.rider(0, 3), 1);
    }

    private static void convincedOnesSpendNothing() {
        Probe t = Probe.stubborn();
        t.x.mount(0, 1);
        is(t.x.ride(3), 3);
        is(t.x.rider(0, 1), 1);
        is(t.x.rider(1, 1), 1);
        t.x.dismount();
        // nor does the other one in its stead
        t.x.rest(1);
        t.x.deal(0, 1);
        t.x.mount(0, 1);
        is(t.x.ride(3), 3);
        is(t.x.rider(0, 1), 1);
        is(t.x.rider(1, 1), 0);
    }

    private static void rows() {
        edge("ROW: numbers told last by a call that says so.", () -> {
            Probe t = Probe.county();
            is(t.x.count(10), 0);
            t.due(t.x.stops(1, 0, 0), 3, 1, 1, 1);
            t.due(t.x.reaches(1, 0, 0, 1), 1, 1, 1, 1);
            t.due(t.x.view(0, 0), 0, 1, 1, 1);
            t.due(t.x.mount(0, 1), 1, 1, 1, 1);
            t.due(t.x.claim(0, 1), 1, 1, 1, 1);
            t.due(t.x.undo(), 0, 1, 1, 1);
            t.due(t.prints("ab"), 2, 1, 1, 1);
            t.due(t.rule(""), 0, 1, 1, 1);
            t.due(t.x.sheet(2, 3, 9, 0), 27, 1, 1, 1);
            t.due(t.x.agree(0, 1), 12, 2);
        });
        edge("Rows of numbers are compared from the first on.", () -> {
            // 0 with 2 and 1 with 3, or 0 with 3 and 1 with 2
            Probe t = new Probe("aa", "1:0;1:0;1:1;1:1");
            t.due(t.x.matches(15, 0), 2, 2, 3, 0, 1);
            // by b with WAYS 0, 1, or by c with 1, 0
            Probe u = new Probe("bc;ad;d;-", "");
            u.due(u.x.foot(0, 3), 2, 0, 1);
        });
        edge("Sets are bits.", () -> {
            Probe t = new Probe("a;a;a;a;a;a;a;a;a;aa!", "1:0000000000;1:0000000001");
            t.riders("1:0000000000;1:0000000000;1:0000000000;1:0000000001");
            is(t.x.place(0, 5), 63);
            is(t.x.count(7), 512);
            t.due(t.x.agree(0, 5), 511, 9);
            t.due(t.x.agree(1, 5), 1023, 10);
            t.due(t.x.editions(32), 1, 0);
            t.due(t.x.kinds(34, 9), 1, 1, 2);
            is(t.x.editions(64), -1);
        });
    }

    private static void looking() {
        edge("Questions change nothing;", () -> {
            Probe t = Probe.county();
            t.prints("abab");
            t.x.mount(1, 0);
            t.x.ride(1);
            t.text("zz");
            asked(t);
            Probe u = Probe.stubborn();
            u.prints("aa");
            u.x.mount(0, 1);
            u.text("zz");
            asked(u);
        });
        edge("s STEPS of this ride so far,", () -> {
            // whatever ride goes on meanwhile, others are begun anew
            for (int s = 0; s < 9; s++) {
                Probe t = Probe.stubborn();
                Probe u = Probe.stubborn();
                t.x.mount(0, 1);
                u.x.mount(0, 1);
                u.x.ride(7);
                t.rule("s=" + s);
                u.rule("s=" + s);
                is(t.x.where(9) == 0, false);
                is(u.x.where(9) == 0, s < 7);
                is(begunAnew(u), begunAnew(t));
            }
        });
        edge("what is asked of rides to come looks on for 200 STEPS at most.", () -> {
            Probe t = Probe.stubborn();
            t.due(t.x.stops(0, 1, 0), -2, 0);
            t.due(t.x.trail(0, 1, 0), 1, 200, 201, 0);
            t.due(t.x.record(0), 200, 0, 1, 4);
            t.due(t.x.matches(3, 0), 200, 1, 0, -1);
            t.due(t.x.partner(0, 0), 1, 200);
            is(t.x.convinces(0, 1, 0), -2);
            t.due(t.x.pairs(0, 0), 2, 0, 2, 0);
            t.rule("s=199");
            is(t.x.reaches(0, 1, 0, 2), 200);
            t.rule("s=200");
            is(t.x.reaches(0, 1, 0, 2), -2);
            is(t.x.stops(0, 1, 0), -2);
            t.due(t.x.trail(0, 1, 0), 1, 200, 201, 0);
            t.due(t.x.record(0), 200, 0, 1, 4);
        });
    }

    /** What is told of rides that are not that of the two on THE HORSE; ahead of each that one is looked at. */
    private static String begunAnew(Probe t) {
        OfDifferentMinds x = t.x;
        t.prints("aaaaaaaac");
        IntSupplier[] questions = {
            () -> x.stops(0, 1, 0), () -> x.trail(0, 1, 0), () -> x.reaches(0, 1, 0, 2), () -> x.pairs(0, 2), () -> x.changes(0, 2),
            () -> x.stations(0), () -> x.record(0), () -> x.matches(3, 0), () -> x.partner(0, 0), () -> x.convinces(2, 1, 0),
            x::fits, x::views, () -> x.county(3, 1)};
        StringBuilder told = new StringBuilder();
        for (IntSupplier question : questions) {
            x.where(1);
            told.append(question.getAsInt()).append(Arrays.toString(t.row()));
        }
        return told.toString();
    }

    private static void asked(Probe t) {
        OfDifferentMinds x = t.x;
        IntSupplier[] questions = {
            () -> x.place(0, 5), () -> x.rider(0, 4), () -> x.view(0, 0), () -> x.where(200), () -> x.stops(0, 1, 0),
            () -> x.stops(0, 2, 1), () -> x.trail(0, 1, 0), () -> x.reaches(0, 1, 0, 2), () -> x.pairs(0, 1),
            () -> x.changes(0, 1), () -> x.stations(0), () -> x.foot(0, 2), () -> x.record(0), () -> x.matches(7, 0),
            () -> x.partner(1, 0), () -> x.agree(0, 1), () -> x.convinces(0, 1, 0), () -> x.claim(0, 1), () -> x.lie(0, 0),
            x::fits, x::views, () -> x.editions(7), () -> x.kinds(7, 0), () -> x.county(7, 60), () -> x.count(5),
            () -> x.count(10)};
        for (IntSupplier question : questions) {
            String before = t.whole();
            int answer = question.getAsInt();
            int[] row = t.row();
            is(t.whole(), before);
            // asked twice, the same is told
            is(question.getAsInt(), answer);
            is(Arrays.equals(t.row(), row), true);
        }
    }

    private static void refused() {
        edge("Refused calls answer NONE, or false, and change nothing but THE TEXT, which a call that reads it empties.", () -> {
            Probe t = Probe.county();
            t.journey("m10;r1");
            t.prints("ab");
            t.x.keep(0);
            t.text("zzz");
            OfDifferentMinds x = t.x;
            IntSupplier[] calls = {
                () -> x.view(3, 0), () -> x.sheet(4, 1, 1, 1), () -> x.mount(0, 0), () -> x.ride(100), () -> x.walk(3, 0),
                () -> x.lead(3, 0), () -> x.rest(3), () -> x.deal(0, 0), () -> x.where(201), () -> x.stops(0, 0, 0),
                () -> x.trail(0, 0, 0), () -> x.reaches(0, 1, 0, 4), () -> x.pairs(0, 4), () -> x.changes(0, 4),
                () -> x.stations(4), () -> x.foot(0, 4), () -> x.record(4), () -> x.matches(8, 0), () -> x.partner(3, 0),
                () -> x.agree(0, 0), () -> x.convinces(0, 0, 0), () -> x.claim(2, 0), () -> x.lie(2, 0), () -> x.editions(8),
                () -> x.kinds(8, 0), () -> x.county(1, 0)};
            for (IntSupplier call : calls) {
                t.idle(call, -1);
            }
            t.idle(() -> x.mount(1, 2), -2);
            t.idle(() -> x.walk(1, 0), -2);
            t.idle(() -> x.walk(2, 7), -3);
            t.idle(() -> x.lead(2, 0), -2);
            t.idle(() -> x.rest(1), -2);
            t.idle(() -> x.deal(0, 1), -2);
            t.idle(() -> x.sheet(2, -1, 1, 1), -2);
            t.idle(() -> x.end(4) || x.end(-1) || x.keep(2) || x.keep(-1) || x.again(1) || x.again(2) ? 1 : 0, 0);
            while (x.sign(0x7a7a7a7a) > 0) {
                continue;
            }
            t.idle(() -> x.sign(0), -1);
            is(x.count(11), 79);
            emptied(t, x::roads);
            emptied(t, x::riders);
            emptied(t, x::rule);
            emptied(t, x::journey);
            emptied(t, x::prints);
            Probe u = new Probe();
            u.idle(u.x::undo, -1);
        });
    }

    private static void emptied(Probe t, IntSupplier call) {
        t.text("");
        String before = t.whole() + Arrays.toString(t.row());
        t.text("qq");
        fault(0, call.getAsInt());
        is(t.x.count(11), 0);
        is(t.whole() + Arrays.toString(t.row()), before);
    }
}

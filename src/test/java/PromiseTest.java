/** Each promise of the document by hand: ordinary inputs, the edges it names, wrong inputs. */
public final class PromiseTest extends Checks {
    public static void main(String[] args) {
        Runnable[] tests = {
            PromiseTest::fresh, PromiseTest::sign, PromiseTest::end, PromiseTest::roads, PromiseTest::riders,
            PromiseTest::rule, PromiseTest::place, PromiseTest::rider, PromiseTest::view, PromiseTest::sheet,
            PromiseTest::mount, PromiseTest::dismount, PromiseTest::ride, PromiseTest::walk, PromiseTest::lead,
            PromiseTest::rest, PromiseTest::deal, PromiseTest::journey, PromiseTest::undo, PromiseTest::where,
            PromiseTest::stops, PromiseTest::trail, PromiseTest::reaches, PromiseTest::pairs, PromiseTest::changes,
            PromiseTest::stations, PromiseTest::foot, PromiseTest::record, PromiseTest::matches, PromiseTest::partner,
            PromiseTest::agree, PromiseTest::convinces, PromiseTest::claim, PromiseTest::lie, PromiseTest::prints,
            PromiseTest::fits, PromiseTest::views, PromiseTest::editions, PromiseTest::kinds, PromiseTest::oneCounty,
            PromiseTest::keep, PromiseTest::again, PromiseTest::count, PromiseTest::row};
        for (int i = 0; i < tests.length; i++) {
            about = "promise " + (i + 1);
            tests[i].run();
        }
        finish(tests.length + " promises hold");
    }

    private static void fresh() {
        Probe t = new Probe();
        int[] counts = {0, 0, 0, -1, -1, 0, 0, 0, 0, 0, 0, 0};
        for (int i = 0; i < counts.length; i++) {
            is(t.x.count(i), counts[i]);
        }
        none(() -> t.x.place(0, 0));
        none(() -> t.x.rider(0, 0));
        none(() -> t.x.row(0));
        is(t.x.stops(0, 1, 0), -1);
        is(t.x.foot(0, 0), -1);
        is(t.x.again(0), false);
        t.due(t.x.matches(0, 0), -1);
        t.due(t.x.editions(0), 0);
        is(OfDifferentMinds.NONE, -1);
    }

    private static void sign() {
        Probe t = new Probe();
        is(t.x.sign('b' << 24 | ';' << 16 | 'a' << 8 | '!'), 4);
        is(t.x.roads(), 2);
        is(t.x.place(0, 1), 1);
        is(t.x.place(1, 1), 0);
        is(t.x.place(1, 4), 1);
        for (int n = 4; n <= 80; n += 4) {
            is(t.x.sign(-1), n);
        }
        is(t.x.sign(0), -1);
        is(t.x.count(11), 80);
        t.x.end(77);
        is(t.x.sign(0), -1);
        is(t.x.count(11), 77);
        t.x.end(76);
        is(t.x.sign(0), 80);
    }

    private static void end() {
        Probe t = new Probe();
        is(t.x.end(0), true);
        is(t.x.end(1), false);
        t.x.sign(0x61626364);
        is(t.x.end(-1), false);
        is(t.x.end(5), false);
        is(t.x.end(4), true);
        is(t.x.end(3), true);
        is(t.x.count(11), 3);
        is(t.x.end(4), false);
        is(t.x.end(0), true);
        is(t.x.count(11), 0);
    }

    private static void roads() {
        Probe t = Probe.county();
        t.prints("ab");
        t.x.mount(0, 1);
        t.x.keep(0);
        Object[][] faults = {
            {"", 0}, {"k", 0}, {"A", 0}, {"!", 0}, {";", 0}, {"-a", 1}, {"--", 1}, {"a-", 1}, {"aaaa", 3}, {"aaa!!", 4},
            {"a!a", 2}, {"a;", 2}, {"a;;a", 2}, {"a ", 1}, {"b", 0}, {"a;bcj", 3}, {"c;a;", 4}, {"c;ax", 3}, {"a;a!;cd", 6},
            {"a;a;a;a;a;a;a;a;a;a;", 20}, {"a;a;a;a;a;a;a;a;a;a;a", 20}, {"a;a;a;a;a;a;a;a;a;a;x", 20},
            {"a;a;a;a;a;a;a;a;a;aaaa", 21}};
        for (Object[] f : faults) {
            is(t.roads((String) f[0]), -1 - (int) f[1]);
            is(t.x.count(11), 0);
        }
        is(t.x.count(0), 4);
        is(t.x.count(1), 3);
        is(t.x.count(3), 0);
        is(t.x.count(8), 2);
        is(t.x.count(9), 1);
        t.x.ride(1);
        is(t.x.count(2), 2);
        is(t.roads("-!;abc!"), -1 - 5);
        is(t.roads("-!;aba!"), 2);
        int[] counts = {2, 0, 0, -1, -1, 0, 0, 3, 0, 0};
        for (int i = 0; i < counts.length; i++) {
            is(t.x.count(i), counts[i]);
        }
        is(t.x.again(0), false);
        is(t.roads("j;a;a;a;a;a;a;a;a;a!"), 10);
        is(t.x.place(0, 1), 9);
        is(t.x.count(7), 1 << 9);
        // THE RULE is none of what is anew
        t.rule("1");
        t.roads("abc;abc;abc");
        t.riders("9:000;9:111");
        t.x.mount(0, 1);
        is(t.x.where(1), 1);
    }

    private static void riders() {
        Probe t = new Probe();
        is(t.riders("1:;99:"), 2);
        is(t.x.rider(1, 0), 99);
        t.roads("aa!;b");
        Object[][] faults = {
            {"x", 0}, {"0:00", 0}, {"00:00", 1}, {"0", 0}, {"0x", 0}, {"00", 1}, {"5", 1}, {"55", 2}, {"555:00", 2},
            {"5:", 2}, {"5:0", 3}, {"5:03", 3}, {"5:09", 3}, {"5:0x", 3}, {"5:000", 4}, {"5:00;", 5}, {"5:00;;", 5},
            {"5:00;0:00", 5}, {"5:00;00:00", 6}, {":00", 0}, {"-5:00", 0}, {" 5:00", 0}, {"5:00 ", 4},
            {"5:00;5:00;5:00;5:00;5:00;5:00;", 30}, {"5:00;5:00;5:00;5:00;5:00;5:00;x", 30}};
        for (Object[] f : faults) {
            is(t.riders((String) f[0]), -1 - (int) f[1]);
            is(t.x.count(11), 0);
        }
        is(t.x.count(1), 0);
        is(t.riders("05:12;99:00"), 2);
        is(t.x.rider(0, 0), 5);
        t.x.walk(0, 0);
        t.x.mount(0, 1);
        t.x.keep(0);
        is(t.x.count(9), 2);
        is(t.riders(""), 0);
        is(t.x.count(9), 2);
        is(t.riders("5:00;5:00;5:00;5:00;5:00"), -21);
        is(t.x.count(9), 2);
        is(t.riders("1:00;2:00;3:00;4:00"), 4);
        is(t.x.count(9), 0);
        is(t.x.count(3), 0);
        is(t.x.again(0), false);
        for (int i = 0; i < 6; i++) {
            is(t.x.rider(i, 0), new int[] {5, 99, 1, 2, 3, 4}[i]);
            is(t.x.rider(i, 1), 0);
            is(t.x.rider(i, 2), 0);
            is(t.x.rider(i, 3), -1);
        }
        is(t.riders("5:00"), -1);
        is(t.riders(""), 0);
        String ten = "99:000000000";
        String five = ten + ";" + ten + ";" + ten + ";" + ten + ";" + ten + ";";
        t.roads("a;a;a;a;a;a;a;a;a");
        is(t.riders(five + ten), -77);
        is(t.riders(five + "9:000000000x"), -77);
        is(t.riders(five + "0:00000000x"), -66);
        is(t.riders(five + "99:00000x00x"), -1 - 73);
        is(t.riders(five + "9:000000000"), 6);
        t.roads("a;a;a;a;a;a;a;a;a;a");
        String eleven = "99:0000000000";
        is(t.riders(eleven + ";" + eleven + ";" + eleven + ";" + eleven + ";" + eleven), 5);
    }

    /** The WAY by a RULE, of three, of VIEWS 0 and 1. */
    private static void way(String rule, int want) {
        Probe t = new Probe("abc;abc;abc", "9:000;7:111");
        is(t.rule(rule), 0);
        t.x.mount(0, 1);
        is(t.x.where(1), want);
    }

    private static void rule() {
        Probe t = new Probe();
        StringBuilder long40 = new StringBuilder("a");
        while (long40.length() < 39) {
            long40.append("+a");
        }
        Object[][] faults = {
            {"z", 0}, {"+", 0}, {"a+", 2}, {"a++a", 2}, {"a<", 2}, {"a<b<k", 3}, {"a=b=k", 3}, {"a=b+k>s", 5}, {"(a", 2},
            {"(a=b", 4}, {"(a=b<k)", 4}, {"()", 1}, {"(", 1}, {")", 0}, {"a)", 1}, {"(((((a)))))", 4}, {"((((a)))", 8},
            {"1000", 3}, {"1a", 1}, {"a1", 1}, {"ab", 1}, {"-", 1}, {"a*", 2}, {"a*/b", 2}, {"c", 0}, {"A", 0}, {"a b", 1},
            {"(a)(b)", 3}, {long40 + "aa", 39}, {long40 + "+a", 40}, {long40 + "+", 40}, {long40 + "-b+c", 40},
            {long40 + "*", 40}, {long40 + "=", 40}};
        for (Object[] f : faults) {
            is(t.rule((String) f[0]), -1 - (int) f[1]);
            is(t.x.count(11), 0);
        }
        is(t.rule(long40.toString()), 0);
        is(t.rule("-" + long40), 0);
        is(t.rule("((((a))))+((((b))))"), 0);
        is(t.rule("007"), 0);
        is(t.rule(""), 0);
        way("", 2);
        way("k-a-b+(k=2)*a", 2);
        way("a", 0);
        way("b", 1);
        way("k+1", 1);
        way("p+2", 2);
        way("s", 0);
        way("m+1", 1);
        way("n", 1);
        way("-1", 2);
        way("--2", 2);
        way("---2", 1);
        way("2-1-1", 0);
        way("2--1*2", 1);
        way("16/4/4", 1);
        way("7/2*2", 0);
        way("1+2*2", 2);
        way("(1+2)*2", 0);
        way("-7/2", 0);
        way("7/-2+1", 1);
        way("5/0", 0);
        way("5/(a-a)+1", 1);
        way("1+1=2", 1);
        way("3<2", 0);
        way("2<3", 1);
        way("2<2", 0);
        way("3>2", 1);
        way("2>2", 0);
        way("2*(1<2)", 2);
        way("-(1<2)", 2);
        way("(1<2)=(2<3)", 1);
        way("100*(m=9)+10*(n=7)+1", 0);
        way("999*999*999*999", Math.floorMod(999 * 999 * 999 * 999, 3));
        way("-999*999*999*999-1", Math.floorMod(-999 * 999 * 999 * 999 - 1, 3));
        // a RULE that can't be leaves the one before
        Probe u = new Probe("abc;abc;abc", "9:000;7:111");
        u.rule("1");
        is(u.rule("2+"), -3);
        u.x.mount(0, 1);
        is(u.x.where(1), 1);
        u.rule("");
        is(u.x.where(1), 2);
        // s goes on from ride() to ride(), and is anew at mount()
        u.rule("(s=2)*2");
        u.x.ride(2);
        is(u.x.where(1), 2);
        u.x.dismount();
        u.x.mount(0, 1);
        is(u.x.where(1), 0);
        // two WAYS: that of THE SECOND
        Probe two = new Probe("bc;a;a", "9:000;9:100");
        is(two.x.reaches(0, 1, 0, 2), 1);
        is(two.x.reaches(1, 0, 0, 1), 1);
    }

    private static void place() {
        Probe t = Probe.county();
        int[][] want = {{2, 1, 2, -1, 0, 7}, {3, 2, 0, 1, 1, 0}, {1, 0, -1, -1, 0, 0}, {0, -1, -1, -1, 0, 0}};
        for (int p = 0; p < 4; p++) {
            for (int what = 0; what < 6; what++) {
                is(t.x.place(p, what), want[p][what]);
            }
        }
        t.x.walk(1, 1);
        is(t.x.place(0, 5), 5);
        is(t.x.place(2, 5), 2);
        t.x.mount(0, 2);
        is(t.x.place(0, 5), 5);
        none(() -> t.x.place(4, 0));
        none(() -> t.x.place(-1, 0));
        none(() -> t.x.place(0, 6));
        none(() -> t.x.place(0, -1));
        none(() -> t.x.place(Integer.MAX_VALUE, 0));
    }

    private static void rider() {
        Probe t = Probe.county();
        t.journey("m10;r3");
        int[][] want = {{9, 0, 1, -1, 0, 1}, {3, 3, 1, 0, 0, 1}, {5, 0, 0, -1, 0, 0}};
        for (int r = 0; r < 3; r++) {
            for (int what = 0; what < 6; what++) {
                is(t.x.rider(r, what), want[r][what]);
            }
        }
        none(() -> t.x.rider(3, 0));
        none(() -> t.x.rider(-1, 5));
        none(() -> t.x.rider(0, 6));
        none(() -> t.x.rider(0, -1));
        Probe nowhere = new Probe("-", "9:0");
        is(nowhere.x.rider(0, 4), -1);
        is(nowhere.x.rider(0, 2), 0);
    }

    private static void view() {
        Probe t = Probe.county();
        int[][] want = {{0, 0, 0, -2}, {1, 2, 0, -2}, {0, 1, 0, -2}};
        for (int r = 0; r < 3; r++) {
            for (int p = 0; p < 4; p++) {
                is(t.x.view(r, p), want[r][p]);
            }
        }
        is(t.x.view(3, 0), -1);
        is(t.x.view(0, 4), -1);
        is(t.x.view(-1, 3), -1);
        is(t.x.view(0, -1), -1);
        Probe one = new Probe("ab;aba;a", "9:222");
        is(one.x.view(0, 0), 0);
        is(one.x.view(0, 1), 2);
        is(one.x.view(0, 2), 0);
        // of the MAP of the one who convinced it, not of the one who convinced that one
        Probe s = Probe.stubborn();
        is(s.x.rider(1, 3), 0);
        is(s.x.rider(0, 3), 2);
        is(s.x.view(1, 0), 0);
        is(s.x.view(0, 0), 1);
        // and as that MAP is by now
        s.x.deal(0, 2);
        is(s.x.view(1, 0), 1);
        is(s.x.view(0, 0), 0);
    }

    private static void sheet() {
        Probe t = Probe.county();
        is(t.x.sheet(2, 3, 5, 1), 18);
        is(t.x.rider(2, 0), 7);
        is(t.x.sheet(2, 6, 5, 1), 18);
        is(t.x.sheet(2, 0, 5, 1), 3);
        is(t.x.sheet(2, 3, 98, 1), 98 + 99 + 99);
        is(t.x.sheet(2, 3, 2, -1), 4);
        is(t.x.sheet(0, 3, 127, 1), 99 + 1 + 1);
        is(t.x.sheet(0, 3, 300, -20), 44 + 24 + 4);
        is(t.x.sheet(1, 3, 127, 1), 99 * 3);
        is(t.x.sheet(1, 2, 65537, 32767), 1 + 1 + 1);
        is(t.x.sheet(1, 1, 65541, 0), 5 + 1 + 1);
        is(t.x.sheet(2, 2, Integer.MAX_VALUE, 1), 99 + 1 + 1);
        is(t.x.sheet(0, -1, 9, 9), -2);
        is(t.x.sheet(1, -1, 9, 9), -2);
        is(t.x.sheet(2, Integer.MIN_VALUE, 9, 9), -2);
        is(t.x.rider(0, 0), 99);
        is(t.x.sheet(4, 1, 9, 9), -1);
        is(t.x.sheet(-1, 1, 9, 9), -1);
        is(t.x.sheet(4, -1, 9, 9), -1);
        is(t.x.sheet(2, 7, 9, 9), -1);
        is(t.x.sheet(3, 7, 9, 9), -1);
        is(t.x.rider(0, 0), 99);
        is(t.x.sheet(3, -5, 9, 9), -3);
        is(t.x.rider(0, 0) + t.x.rider(1, 0) + t.x.rider(2, 0), 3);
        // SPENT is no more than MIND
        Probe u = Probe.county();
        u.journey("m10;r2;d");
        is(u.x.rider(1, 1), 2);
        u.x.sheet(2, 2, 9, -8);
        is(u.x.rider(1, 0), 1);
        is(u.x.rider(1, 1), 1);
        is(u.x.rider(1, 3), -1);
        is(u.x.sheet(2, 2, 9, 0), 19);
        is(u.x.rider(1, 1), 1);
        is(new Probe().x.sheet(0, 6, 9, 9), 0);
        Probe first = new Probe("aa", "5:0;9:1");
        first.journey("m01;r3;d");
        is(first.x.rider(0, 1), 3);
        first.x.sheet(2, 2, 2, 0);
        is(first.x.rider(0, 1), 2);
        // none left without being CONVINCED: it is by the next STEP
        u.x.sheet(2, 2, 9, -8);
        u.x.mount(1, 0);
        u.due(u.x.ride(1), 1, 1, 0, 1);
        is(u.x.rider(1, 1), 1);
    }

    private static void mount() {
        Probe t = Probe.county();
        is(t.x.mount(0, 0), -1);
        is(t.x.mount(0, 3), -1);
        is(t.x.mount(-1, 0), -1);
        is(t.x.mount(0, 2), 0);
        is(t.x.count(3), 0);
        is(t.x.count(4), 2);
        is(t.x.mount(0, 1), -2);
        is(t.x.mount(1, 1), -1);
        t.x.dismount();
        t.x.walk(1, 0);
        is(t.x.mount(0, 1), -3);
        is(t.x.mount(1, 0), -3);
        t.x.undo();
        is(t.x.mount(1, 0), 1);
        is(t.x.count(3), 1);
        is(t.x.count(4), 0);
        is(t.x.count(5), 0);
        Probe nowhere = new Probe("-", "9:0;9:1");
        is(nowhere.x.mount(0, 1), 0);
    }

    private static void dismount() {
        Probe t = Probe.county();
        is(t.x.dismount(), -2);
        t.x.mount(0, 1);
        t.x.ride(1);
        is(t.x.count(5), 1);
        is(t.x.dismount(), 2);
        is(t.x.count(3), -1);
        is(t.x.count(4), -1);
        is(t.x.count(5), 0);
        is(t.x.rider(0, 2), 2);
        is(t.x.dismount(), -2);
    }

    private static void ride() {
        Probe t = Probe.county();
        is(t.x.ride(1), -2);
        is(t.x.ride(100), -1);
        is(t.x.ride(-1), -1);
        t.x.mount(1, 0);
        t.due(t.x.ride(0), 0, 0, 0, -1);
        t.due(t.x.ride(1), 1, 1, 0, -1);
        is(t.x.rider(1, 1), 1);
        is(t.x.rider(0, 1), 0);
        is(t.x.count(5), 1);
        t.due(t.x.ride(99), 2, 1, 1, 1);
        is(t.x.rider(1, 3), 0);
        is(t.x.rider(1, 1), 3);
        is(t.x.rider(0, 2), 1);
        is(t.x.rider(1, 2), 1);
        is(t.x.rider(2, 2), 0);
        is(t.x.count(5), 3);
        t.due(t.x.ride(5), 0, 1, 1, -1);
        t.due(t.x.ride(0), 0, 1, 0, -1);
        t.due(t.x.ride(100), -1, 1, 0, -1);
        // of equal ones THE SECOND has SPENT
        Probe u = new Probe("aab;b", "2:00;2:10");
        u.rule("0");
        u.x.mount(1, 0);
        u.due(u.x.ride(1), 1, 0, 0, -1);
        is(u.x.rider(0, 1), 1);
        is(u.x.rider(1, 1), 0);
        u.due(u.x.ride(9), 1, 0, 1, 0);
        // who is CONVINCED spends no more, nor does the other one in its stead
        Probe s = Probe.stubborn();
        s.x.mount(0, 1);
        s.due(s.x.ride(99), 99, 0, 0, -1);
        is(s.x.rider(0, 1), 1);
        is(s.x.rider(1, 1), 1);
        is(s.x.count(5), 99);
    }

    private static void walk() {
        Probe t = Probe.county();
        is(t.x.walk(0, 1), 2);
        is(t.x.walk(0, 1), -3);
        is(t.x.walk(0, -1), -3);
        is(t.x.walk(0, 0), 0);
        is(t.x.walk(0, 2), -3);
        is(t.x.walk(3, 0), -1);
        is(t.x.walk(-1, 0), -1);
        t.x.mount(0, 1);
        is(t.x.walk(0, 0), -2);
        is(t.x.walk(1, 9), -2);
        is(t.x.walk(2, 0), 1);
        is(t.x.walk(2, 2), 1);
        is(t.x.count(2), 0);
    }

    private static void lead() {
        Probe t = Probe.county();
        is(t.x.lead(0, 1), 2);
        is(t.x.count(2), 2);
        is(t.x.rider(0, 2), 2);
        is(t.x.rider(1, 2), 0);
        is(t.x.lead(1, 0), -4);
        is(t.x.lead(1, 1), -3);
        is(t.x.lead(0, 3), -3);
        is(t.x.lead(0, -1), -3);
        is(t.x.lead(3, 0), -1);
        is(t.x.lead(-1, 7), -1);
        is(t.x.lead(0, 0), 0);
        t.x.mount(0, 1);
        is(t.x.lead(2, 0), -2);
        is(t.x.lead(2, 9), -2);
        is(t.x.lead(3, 0), -1);
    }

    private static void rest() {
        Probe t = Probe.county();
        is(t.x.rest(0), -2);
        is(t.x.rest(3), -1);
        is(t.x.rest(-1), -1);
        t.journey("m10;r9");
        is(t.x.rest(1), -2);
        t.x.dismount();
        is(t.x.count(6), 2);
        is(t.x.rest(1), 3);
        is(t.x.rider(1, 1), 0);
        is(t.x.rider(1, 3), -1);
        is(t.x.view(1, 0), 1);
        is(t.x.rest(1), 0);
        is(t.x.rest(2), -2);
    }

    private static void deal() {
        Probe t = Probe.county();
        is(t.x.deal(0, 1), -2);
        t.journey("w00;w10");
        is(t.x.deal(0, 1), 2);
        is(t.x.view(0, 1), 2);
        is(t.x.view(1, 1), 0);
        is(t.x.deal(0, 2), -2);
        is(t.x.deal(0, 0), -1);
        is(t.x.deal(0, 3), -1);
        is(t.x.deal(-1, 0), -1);
        t.x.lead(2, 0);
        is(t.x.deal(2, 1), 2);
        t.x.mount(0, 1);
        is(t.x.deal(0, 2), -2);
        is(t.x.deal(2, 1), -2);
        Probe same = new Probe("-!", "1:2;2:2;3:1");
        is(same.x.deal(0, 1), 0);
        is(same.x.count(9), 1);
        // digits, not VIEWS
        is(same.x.deal(0, 2), 1);
    }

    private static void journey() {
        Probe t = Probe.county();
        t.due(t.journey("m10;r9;d;z1;x12"), 4, 1, 3);
        is(t.x.count(2), 1);
        is(t.x.rider(1, 1), 0);
        is(t.x.count(9), 1);
        is(t.x.count(11), 0);
        t.due(t.journey(""), 0, 0, 0);
        is(t.x.count(9), 1);
        t.due(t.journey("r1"), 0, 1, 0);
        is(t.x.count(9), 1);
        t.due(t.journey("w20;l11;w10;w00;x10"), 4, 1, 0);
        is(t.x.undo(), 1);
        is(t.x.undo(), 0);
        t.due(t.journey("m10;r1;r01;d"), 4, 0, 2);
        // an ACT that rides no STEP is done
        t.due(t.journey("m02;r9;r0"), 3, 0, 0);
        t.due(t.journey("r7"), 1, 0, 0);
        is(t.x.count(9), 3);
        Object[][] faults = {
            {"q", 0}, {";", 0}, {"m", 1}, {"m1", 2}, {"m1x", 2}, {"mx", 1}, {"m123", 3}, {"d0", 1}, {"d;", 2}, {"d;;d", 2},
            {"r", 1}, {"rx", 1}, {"r123", 3}, {"w0", 2}, {"l", 1}, {"z", 1}, {"z12", 2}, {"x1", 2}, {"m10;r9;d;z1;x1", 14},
            {"M10", 0}, {"m10 ", 3}};
        for (Object[] f : faults) {
            is(t.journey((String) f[0]), -1 - (int) f[1]);
            is(t.x.count(11), 0);
        }
        t.due(t.x.count(9), 3, 0, 0);
        String sixty = "m10;m10;m10;m10;m10;m10;m10;m10;m10;m10;m10;m10;m10;m10;r10";
        is(sixty.length(), 59);
        is(t.journey(sixty + ";"), -61);
        is(t.journey(sixty + ";d"), -61);
        is(t.journey(sixty + "0"), -60);
        is(t.journey(sixty.substring(0, 56) + "r1;d;d"), -61);
        is(t.journey(sixty.substring(0, 56) + "r1;dd;"), -61);
        is(t.journey(sixty.substring(0, 56) + "r1dd;d"), -59);
        is(t.journey(sixty), 0);
        is(t.journey("d;" + sixty.substring(0, 56) + "z1"), 2);
    }

    private static void undo() {
        Probe t = Probe.county();
        is(t.x.undo(), -1);
        is(t.x.mount(1, 0), 1);
        is(t.x.ride(0), 0);
        is(t.x.count(9), 1);
        is(t.x.ride(2), 2);
        is(t.x.ride(2), 1);
        is(t.x.dismount(), 1);
        is(t.x.rest(1), 3);
        is(t.x.rest(2), -2);
        is(t.x.lead(1, 1), 0);
        is(t.x.walk(2, 0), 1);
        is(t.x.deal(0, 2), 2);
        is(t.x.count(9), 8);
        is(t.x.view(0, 1), 1);
        is(t.x.undo(), 7);
        is(t.x.view(0, 1), 0);
        is(t.x.undo(), 6);
        is(t.x.rider(2, 2), 0);
        is(t.x.undo(), 5);
        is(t.x.count(2), 1);
        is(t.x.rider(1, 2), 1);
        is(t.x.undo(), 4);
        is(t.x.rider(1, 1), 3);
        is(t.x.rider(1, 3), 0);
        is(t.x.undo(), 3);
        is(t.x.count(3), 1);
        is(t.x.count(4), 0);
        is(t.x.count(5), 3);
        is(t.x.undo(), 2);
        is(t.x.rider(1, 1), 2);
        is(t.x.rider(1, 3), -1);
        is(t.x.count(5), 2);
        // MINDS stay, SPENT is MIND at most
        t.x.ride(1);
        t.x.sheet(2, 3, 1, 0);
        is(t.x.undo(), 2);
        is(t.x.rider(1, 0), 1);
        is(t.x.rider(1, 1), 1);
        is(t.x.undo(), 1);
        is(t.x.count(2), 0);
        is(t.x.undo(), 0);
        is(t.x.count(3), -1);
        is(t.x.undo(), -1);
        // all of it comes back, whatever was done ahead of it
        Probe u = Probe.county();
        u.undone(() -> u.x.walk(2, 0));
        u.undone(() -> u.x.lead(1, 1));
        u.undone(() -> u.x.lead(1, 0));
        u.undone(() -> u.x.mount(1, 0));
        u.undone(() -> u.x.ride(1));
        u.undone(() -> u.x.ride(9));
        u.undone(() -> u.x.dismount());
        u.undone(() -> u.x.rest(1));
        u.undone(() -> u.x.deal(1, 2));
        u.undone(() -> u.journey("w00;m12;r9"));
        // twelve of them, the latest
        String[] states = new String[20];
        for (int i = 0; i < 20; i++) {
            states[i] = u.state();
            u.x.walk(0, (i * 7 + 3) % Math.max(1, u.x.place(u.x.rider(0, 2), 0)));
        }
        is(u.x.count(9), 12);
        for (int i = 11; i >= 0; i--) {
            is(u.x.undo(), i);
            is(u.state().equals(states[8 + i]), true);
        }
        is(u.x.undo(), -1);
        t.x.walk(2, 0);
        t.riders("");
        is(t.x.count(9), 1);
        t.riders("1:1234");
        is(t.x.count(9), 1);
        t.riders("1:0000");
        is(t.x.count(9), 0);
        t.x.walk(2, 1);
        t.x.again(0);
        is(t.x.count(9), 1);
        t.x.keep(0);
        is(t.x.count(9), 1);
        t.x.again(0);
        is(t.x.count(9), 0);
        t.x.walk(2, 0);
        t.roads("x");
        is(t.x.count(9), 1);
        t.roads("a");
        is(t.x.count(9), 0);
    }

    private static void where() {
        Probe t = Probe.county();
        t.due(t.x.where(0), 0, 0, 1);
        t.due(t.x.where(200), 0, 0, 1);
        is(t.x.where(201), -1);
        is(t.x.where(-1), -1);
        t.x.mount(1, 0);
        t.due(t.x.where(0), 0, 0, 0);
        t.due(t.x.where(1), 1, 1, 0);
        t.due(t.x.where(2), 0, 2, 0);
        t.due(t.x.where(3), 1, 3, 0);
        t.due(t.x.where(4), 1, 3, 1);
        t.due(t.x.where(200), 1, 3, 1);
        is(t.x.count(2), 0);
        is(t.x.rider(1, 1), 0);
        t.x.ride(2);
        t.due(t.x.where(9), 1, 1, 1);
        t.x.ride(1);
        t.due(t.x.where(0), 1, 0, 0);
        t.due(t.x.where(1), 1, 0, 1);
        Probe s = Probe.stubborn();
        s.x.mount(0, 1);
        s.rule("s=199");
        s.due(s.x.where(199), 0, 199, 0);
        s.due(s.x.where(200), 2, 200, 0);
        s.rule("s=198");
        s.due(s.x.where(200), 2, 199, 1);
    }

    private static void stops() {
        Probe t = Probe.county();
        t.due(t.x.stops(0, 1, 0), 1, 2, 1, -1);
        t.due(t.x.stops(1, 0, 0), 3, 1, 1, 1);
        t.due(t.x.stops(0, 2, 0), 0, 0, 1, -1);
        t.due(t.x.stops(0, 2, 1), 5, 1, 1, 2);
        t.due(t.x.stops(0, 2, 3), 0, 3, 0, -1);
        t.due(t.x.stops(0, 0, 0), -1, 3, 0, -1);
        t.due(t.x.stops(0, 3, 0), -1, 3, 0, -1);
        t.due(t.x.stops(0, 1, 4), -1, 3, 0, -1);
        t.due(t.x.stops(0, 1, -1), -1, 3, 0, -1);
        // as they are, wherever, and a ride begun anew
        t.journey("m10;r2");
        t.due(t.x.stops(1, 0, 1), 1, 0, 1, 1);
        t.rule("s*2");
        t.due(t.x.stops(2, 0, 1), 1, 2, 1, -1);
        Probe s = Probe.stubborn();
        s.due(s.x.stops(0, 1, 0), -2, 0);
        s.rule("s=199");
        s.due(s.x.stops(0, 1, 0), 200, 2, 0, -1);
        s.rule("s=200");
        s.due(s.x.stops(0, 1, 0), -2, 0);
    }

    private static void trail() {
        Probe t = Probe.county();
        t.due(t.x.trail(1, 0, 0), 3, 3, 2, 0);
        t.due(t.x.trail(0, 1, 0), 5, 1, 1, 0);
        t.due(t.x.trail(0, 1, 3), 8, 0, 1, 3);
        // 1 to 2 by the way that neither would, the lesser of equal ones is told
        t.due(t.x.trail(0, 2, 1), 2, 5, 6, 1);
        t.due(t.x.trail(1, 2, 1), 6, 1, 1, 1);
        t.due(t.x.trail(1, 1, 1), -1, 1, 1, 1);
        t.due(t.x.trail(1, 3, 1), -1, 1, 1, 1);
        t.due(t.x.trail(1, 0, 4), -1, 1, 1, 1);
        Probe back = new Probe("-;aa", "9:00;9:11");
        back.due(back.x.trail(0, 1, 1), 3, 1, 1, 0);
        Probe s = Probe.stubborn();
        s.due(s.x.trail(0, 1, 0), 1, 200, 201, 0);
        s.rule("s=199");
        s.due(s.x.trail(0, 1, 0), 5, 200, 200, 0);
    }

    private static void reaches() {
        Probe t = Probe.county();
        is(t.x.reaches(1, 0, 0, 0), 0);
        is(t.x.reaches(1, 0, 0, 1), 1);
        is(t.x.reaches(1, 0, 0, 2), -2);
        is(t.x.reaches(0, 1, 0, 2), 1);
        is(t.x.reaches(0, 1, 0, 3), -2);
        is(t.x.reaches(0, 1, 3, 3), 0);
        is(t.x.reaches(0, 1, 4, 0), -1);
        is(t.x.reaches(0, 1, 0, 4), -1);
        is(t.x.reaches(0, 1, -1, 0), -1);
        is(t.x.reaches(1, 1, 0, 0), -1);
        is(t.x.reaches(0, 3, 0, 0), -1);
        Probe s = Probe.stubborn();
        s.rule("s=199");
        is(s.x.reaches(0, 1, 0, 2), 200);
        s.rule("s=200");
        is(s.x.reaches(0, 1, 0, 2), -2);
    }

    private static void pairs() {
        Probe t = Probe.county();
        t.due(t.x.pairs(0, 2), 3, 0, 1, 1);
        t.due(t.x.pairs(0, 0), 2, 0, 2, 0);
        t.due(t.x.pairs(0, 1), 1, 1, 0, 3);
        t.due(t.x.pairs(0, 3), 0);
        t.due(t.x.pairs(3, 3), 6, 0, 1, 0);
        is(t.x.pairs(4, 0), -1);
        is(t.x.pairs(0, 4), -1);
        is(t.x.pairs(-1, 0), -1);
        is(new Probe("aa", "9:0").x.pairs(0, 0), 0);
        // fewer STEPS go ahead of lesser numbers
        Probe few = new Probe("aa", "5:0;4:1;2:0");
        few.due(few.x.pairs(0, 0), 6, 0, 2, 0);
        few.riders("1:1");
        few.due(few.x.pairs(0, 0), 12, 0, 2, 0);
        Probe late = new Probe("aa;a", "5:00;4:10");
        late.due(late.x.pairs(0, 0), 2, 0, 1, 4);
        late.riders("2:20;3:20");
        late.due(late.x.pairs(0, 0), 12, 0, 2, 0);
        Probe s = Probe.stubborn();
        s.rule("s=199");
        s.due(s.x.pairs(0, 2), 4, 0, 1, 200);
        s.rule("s=200");
        s.due(s.x.pairs(0, 2), 0);
    }

    private static void changes() {
        Probe t = Probe.county();
        t.due(t.x.changes(0, 2), 1, 0, 1);
        t.due(t.x.changes(0, 1), 1, 1, 0);
        t.due(t.x.changes(0, 0), 0);
        t.due(t.x.changes(3, 3), 0);
        t.due(t.x.changes(0, 3), -2);
        t.due(t.x.changes(2, 0), -2);
        is(t.x.changes(0, 4), -1);
        is(t.x.changes(4, 4), -1);
        is(t.x.changes(-1, 0), -1);
        t.due(t.x.changes(1, 2), 1, 0, 1);
        Probe c = Probe.chain();
        c.due(c.x.changes(0, 1), 1, 0, 1);
        c.due(c.x.changes(0, 3), 3, 0, 1, 0, 1, 0, 1);
        c.due(c.x.changes(0, 5), 5, 0, 1, 0, 1, 0, 1, 0, 1, 0, 1);
        c.due(c.x.changes(0, 7), 7, 0, 1, 0, 1, 0, 1, 0, 1, 0, 1);
        // h is no INN: THE HORSE is not left there, but may begin there
        c.due(c.x.changes(0, 8), -2, 0, 1, 0, 1, 0, 1, 0, 1, 0, 1);
        c.due(c.x.changes(7, 8), 1, 0, 1);
        // fresh, however they are
        c.journey("m01;r9");
        is(c.x.count(6), 2);
        c.due(c.x.changes(0, 2), 2, 0, 1, 0, 1);
        // of as few the least row: 0 1 leads by b, where 1 2 alone goes on; 0 2 leads by c, where 0 1 does
        Probe d = new Probe("ab!;bd!;-;-", "1:0000;1:1000;1:0100");
        d.due(d.x.changes(0, 3), 2, 0, 1, 0, 2);
        is(new Probe("ab;a", "9:00").x.changes(0, 1), -2);
        is(new Probe("ab;a", "9:00").x.changes(1, 1), 0);
    }

    private static void stations() {
        Probe t = Probe.county();
        t.due(t.x.stations(0), 7, 5);
        t.due(t.x.stations(2), 4, 4);
        t.due(t.x.stations(3), 8, 8);
        is(t.x.stations(4), -1);
        is(t.x.stations(-1), -1);
        Probe c = Probe.chain();
        c.due(c.x.stations(0), 255, 128);
        c.due(c.x.stations(4), 240, 128);
        c.due(c.x.stations(7), 384, 384);
        // where it begins alone is no PLACE where it STOPS
        Probe two = new Probe("bb!;-", "9:00;9:11");
        two.due(two.x.stations(0), 2, 2);
        Probe one = new Probe("bb!;-", "9:00");
        one.due(one.x.stations(0), 0, 0);
        // fresh, however they are
        c.journey("m01;r9");
        c.due(c.x.stations(0), 255, 128);
    }

    private static void foot() {
        Probe t = Probe.county();
        t.due(t.x.foot(0, 2), 1, 1);
        t.due(t.x.foot(2, 1), 2, 0, 0);
        t.due(t.x.foot(1, 1), 0);
        t.due(t.x.foot(1, 2), 1, 0);
        t.due(t.x.foot(3, 0), -2, 0);
        t.due(t.x.foot(0, 3), -2, 0);
        is(t.x.foot(4, 0), -1);
        is(t.x.foot(0, 4), -1);
        is(t.x.foot(-1, 0), -1);
        Probe u = new Probe("acb;add;da;-", "");
        u.due(u.x.foot(0, 3), 2, 1, 0);
        Probe v = new Probe("aab;ac;aad;ae;af;ag;ah;ai;aaj;-", "");
        v.due(v.x.foot(0, 9), 9, 2, 1, 2, 1, 1, 1, 1, 1, 2);
    }

    private static void record() {
        Probe t = Probe.county();
        t.due(t.x.record(0), 3, 1, 0, 1);
        t.due(t.x.record(2), 0, 0, 1, 6);
        t.due(t.x.record(1), 5, 0, 2, 2);
        is(t.x.record(4), -1);
        is(t.x.record(-1), -1);
        is(new Probe("aa", "9:0").x.record(0), -2);
        is(new Probe("aa", "9:0;7:1").x.record(0), 7);
        is(new Probe("aa", "9:0").x.record(1), -1);
        Probe s = Probe.stubborn();
        s.due(s.x.record(0), 200, 0, 1, 4);
    }

    private static void matches() {
        Probe t = Probe.county();
        t.due(t.x.matches(7, 0), 2, -1, 2, 1);
        t.due(t.x.matches(3, 0), 1, 1, 0, -1);
        t.due(t.x.matches(5, 1), 5, 2, -1, 0);
        t.due(t.x.matches(0, 0), 0, -1, -1, -1);
        t.due(t.x.matches(4, 0), 0, -1, -1, -1);
        is(t.x.matches(8, 0), -1);
        is(t.x.matches(-1, 0), -1);
        is(t.x.matches(7, 4), -1);
        is(t.x.matches(7, -1), -1);
        // like ones ride no STEP, unlike ones as many as the lesser MIND
        Probe u = new Probe("aa", "5:0;4:0;3:0;2:1;1:1;9:1");
        u.due(u.x.matches(63, 0), 5 + 2 + 1, 5, 3, 4, 1, 2, 0);
        u.due(u.x.matches(7, 0), 0, -1, 2, 1, -1, -1, -1);
        u.due(u.x.matches(15, 0), 2, 1, 0, 3, 2, -1, -1);
        u.due(u.x.matches(31, 0), 3, -1, 3, 4, 1, 2, -1);
    }

    private static void partner() {
        Probe t = Probe.county();
        t.due(t.x.partner(1, 0), 0, 3);
        t.due(t.x.partner(0, 0), 1, 1);
        t.due(t.x.partner(0, 1), 2, 5);
        t.due(t.x.partner(2, 2), 0, 0);
        t.due(t.x.partner(3, 0), -1, 0);
        is(t.x.partner(0, 4), -1);
        is(t.x.partner(-1, 0), -1);
        is(new Probe("aa", "9:0").x.partner(0, 0), -2);
        Probe s = Probe.stubborn();
        s.due(s.x.partner(1, 0), 0, 200);
    }

    private static void agree() {
        Probe t = Probe.county();
        t.due(t.x.agree(0, 2), 13, 3);
        t.due(t.x.agree(0, 1), 12, 2);
        t.due(t.x.agree(2, 1), 12, 2);
        t.due(t.x.agree(0, 0), -1, 2);
        is(t.x.agree(0, 3), -1);
        is(t.x.agree(-1, 0), -1);
        t.journey("m10;r9");
        t.due(t.x.agree(0, 1), 15, 4);
        t.due(t.x.agree(2, 1), 13, 3);
    }

    private static void convinces() {
        Probe t = Probe.county();
        t.due(t.x.convinces(1, 0, 0), 1, 3, 9);
        t.due(t.x.convinces(0, 2, 1), 2, 5, 9);
        t.due(t.x.convinces(0, 1, 0), -2, 5, 9);
        is(t.x.convinces(0, 0, 0), -1);
        is(t.x.convinces(0, 3, 0), -1);
        is(t.x.convinces(0, 1, 4), -1);
        Probe u = new Probe("aa", "3:0;3:1");
        u.due(u.x.convinces(0, 1, 0), 1, 3, 3);
        u.due(u.x.convinces(1, 0, 0), 0, 3, 3);
        Probe s = Probe.stubborn();
        s.due(s.x.convinces(0, 1, 0), -2, 0, 2);
        // 0 is CONVINCED and does not wear down, 1 does if it has less left
        is(s.x.rest(1), 1);
        s.x.deal(0, 1);
        s.x.sheet(2, 3, 9, 0);
        s.due(s.x.convinces(0, 1, 0), -2, 0, 2);
        s.x.sheet(2, 3, 9, -2);
        s.due(s.x.convinces(0, 1, 0), 1, 7, 8);
    }

    private static void claim() {
        Probe t = Probe.county();
        is(t.x.claim(0, 0), -2);
        is(t.x.claim(2, 0), -1);
        is(t.x.claim(-1, 9), -1);
        t.x.mount(0, 1);
        is(t.x.claim(0, 1), 1);
        is(t.x.claim(0, 0), 0);
        is(t.x.claim(1, 0), 0);
        is(t.x.claim(1, 1), 2);
        is(t.x.claim(0, 2), -2);
        is(t.x.claim(0, -1), -2);
        t.rule("a+s");
        is(t.x.claim(0, 0), 1);
        is(t.x.claim(1, 0), 2);
        Probe u = new Probe("abc;a;a", "9:000;7:111");
        u.x.mount(0, 1);
        is(u.x.claim(0, 0), 4);
        is(u.x.claim(0, 1), 0);
        is(u.x.claim(0, 2), 1);
        is(u.x.claim(1, 1), 4);
        is(u.x.claim(1, 2), 2);
        u.rule("n-m");
        is(u.x.claim(1, 1), 6);
        is(u.x.claim(0, 1), 5);
        is(u.x.claim(0, 0), 0);
        Probe nowhere = new Probe("-", "9:0;9:1");
        nowhere.x.mount(0, 1);
        is(nowhere.x.claim(0, 0), -2);
        is(t.x.count(10), 0);
    }

    private static void lie() {
        Probe t = Probe.county();
        is(t.x.lie(0, 0), -2);
        is(t.x.lie(2, 0), -1);
        is(t.x.lie(-1, 0), -1);
        is(t.x.lie(0, 4), -1);
        t.x.mount(0, 1);
        t.due(t.x.lie(1, 2), 1, 1);
        t.due(t.x.lie(0, 1), -2, 1);
        // it must go: where it is, it does not come to by no STEP
        t.due(t.x.lie(0, 0), -2, 1);
        is(t.x.lie(0, -1), -1);
        is(t.x.lie(0, 4), -1);
        is(t.x.rider(1, 1), 0);
        Probe u = new Probe("abc;cba;baa", "9:000;7:111");
        u.x.mount(0, 1);
        u.due(u.x.lie(0, 0), 2, 1);
        u.due(u.x.lie(1, 0), 1, 2);
        u.due(u.x.lie(0, 2), 0, 1);
        u.due(u.x.lie(1, 1), 2, 1);
        u.due(u.x.lie(0, 1), -2, 1);
        // of equal ones the least
        u.rule("2");
        u.due(u.x.lie(0, 2), 0, 1);
        u.due(u.x.lie(1, 2), 1, 1);
        Probe s = Probe.stubborn();
        s.x.mount(0, 1);
        s.rule("s=199");
        s.due(s.x.lie(0, 2), 1, 200);
        s.rule("s=200");
        s.due(s.x.lie(0, 2), -2, 200);
    }

    private static void prints() {
        Probe t = Probe.county();
        is(t.prints(""), -1);
        is(t.prints("abcd"), 4);
        is(t.x.count(8), 4);
        is(t.prints("abce"), -4);
        is(t.prints("x"), -1);
        is(t.prints("ab;"), -3);
        is(t.prints("aA"), -2);
        is(t.x.count(8), 4);
        is(t.x.count(11), 0);
        is(t.prints("abcdabcdabcdabcdabcd"), 20);
        is(t.prints("abcdabcdabcdabcdabcda"), -21);
        is(t.prints("abcdabcdabcdabcdabcdx"), -21);
        is(t.prints("abcdabcdabcdabcdabcxx"), -20);
        is(t.x.count(8), 20);
        t.riders("1:0000");
        is(t.x.count(8), 20);
        is(new Probe().prints("a"), -1);
    }

    private static void fits() {
        Probe t = Probe.county();
        is(t.x.fits(), -2);
        t.prints("abab");
        t.due(t.x.fits(), 1, 1, 0);
        t.prints("ac");
        t.due(t.x.fits(), 2, 0, 1);
        t.prints("a");
        t.due(t.x.fits(), 6, 0, 1);
        t.prints("ababa");
        t.due(t.x.fits(), 0);
        t.prints("ad");
        t.due(t.x.fits(), 0);
        // as they are
        t.prints("ab");
        t.due(t.x.fits(), 2, 1, 0);
        t.journey("m10;r9");
        t.due(t.x.fits(), 0);
        is(t.prints("aab!"), -4);
        t.due(t.x.fits(), 0);
    }

    private static void views() {
        Probe t = Probe.county();
        is(t.x.views(), -2);
        t.prints("abab");
        t.due(t.x.views(), 3, 1, 2, 1);
        t.prints("a");
        t.due(t.x.views(), 0);
        t.prints("abbadacadcab");
        // d leads nowhere, nothing leads to it, one WAY is of one VIEW
        t.due(t.x.views(), 5, 1, 2, 2, 1, 1);
        t.prints("bbbbbbbbbbbbbbbbbbbb");
        t.due(t.x.views(), 19, 2, 2, 2, 2, 2, 2, 2, 2, 2, 2, 2, 2, 2, 2, 2);
        // s by prints, m and n 9
        t.rule("2*(s=1)*(m=9)*(n=9)");
        t.prints("bcbb");
        t.due(t.x.views(), 1, 6);
        t.prints("bbbb");
        t.due(t.x.views(), 1, 6);
        t.rule("2*(s=0)");
        t.due(t.x.views(), 1, 6);
        Probe nobody = new Probe("bbb;aab", "");
        nobody.prints("abab");
        nobody.due(nobody.x.views(), 3, 6, 4, 6);
    }

    private static void editions() {
        Probe t = Probe.county();
        t.due(t.x.editions(7), 3, 0, 1, 2);
        t.due(t.x.editions(6), 2, 0, 1);
        t.due(t.x.editions(0), 0);
        is(t.x.editions(8), -1);
        is(t.x.editions(-1), -1);
        t.riders("7:0110;8:0000;9:1200");
        t.due(t.x.editions(63), 3, 0, 1, 2, 2, 0, 1);
        t.due(t.x.editions(60), 3, 0, 0, 1, 2);
        is(t.x.editions(64), -1);
        // whoever goes by them
        t.journey("m10;r9");
        t.due(t.x.editions(3), 2, 0, 1);
        // digits, not VIEWS
        Probe u = new Probe("a", "1:0;1:1");
        u.due(u.x.editions(3), 2, 0, 1);
    }

    private static void kinds() {
        Probe t = Probe.county();
        t.due(t.x.kinds(7, 0), 2, 0, 2);
        t.due(t.x.kinds(7, 1), 3, 0, 1);
        t.due(t.x.kinds(6, 1), 2, 1, 1);
        t.due(t.x.kinds(2, 1), 1, 2, 1);
        t.due(t.x.kinds(7, 2), 1, 0, 3);
        t.due(t.x.kinds(7, 3), 0, -1, 0);
        t.due(t.x.kinds(0, 0), 0, -1, 0);
        is(t.x.kinds(8, 0), -1);
        is(t.x.kinds(-1, 0), -1);
        is(t.x.kinds(7, 4), -1);
        is(t.x.kinds(7, -1), -1);
        t.journey("m10;r9");
        t.due(t.x.kinds(3, 0), 1, 0, 2);
    }

    private static void oneCounty() {
        Probe t = Probe.county();
        is(t.x.county(1, 0), -1);
        is(t.x.county(1, 61), -1);
        is(new Probe().x.county(1, 61), -1);
        is(new Probe("aa", "9:0").x.county(1, 1), -2);
        // R of seed 0: 12345, which draws 0; then -740551042, which draws 54236: of two riders 0 and 0, so 0 and 1
        Probe u = new Probe("aa", "9:0;7:1");
        u.due(u.x.county(0, 1), 7, 0, 0, 0);
        is(u.x.rider(1, 1), 0);
        // seed 1 draws 16838, 38526, 10113, 50283: of three riders 2 and 0, then 0 and 0, so 0 and 1
        Probe three = new Probe("aa", "9:0;5:1;7:1");
        three.due(three.x.county(1, 1), 7, 0, 0, 0);
        three.due(three.x.county(1, 2), 12, 0, 0, 0);
        // seed 0 draws 0, 54236, of three riders 0 and 2
        three.due(three.x.county(0, 1), 7, 0, 0, 0);
        // at most 20 STEPS
        u.x.sheet(2, 2, 50, 1);
        u.due(u.x.county(0, 1), 20, 0, 0, 0);
        u.due(u.x.county(0, 60), 1200, 0, 0, 0);
        // fresh, from where THE HORSE is
        Probe v = new Probe("bb;-", "9:00;7:11");
        v.due(v.x.county(5, 3), 1, 1, 0, 2);
        v.journey("m01;r1");
        v.due(v.x.county(5, 3), 0, 1, -1, 3);
        Probe w = new Probe("aa", "9:0;1:1");
        w.journey("m01;r9");
        is(w.x.count(6), 2);
        w.due(w.x.county(0, 2), 2, 0, 0, 0);
        is(w.x.count(6), 2);
    }

    private static void keep() {
        Probe t = Probe.county();
        is(t.x.keep(0), true);
        is(t.x.keep(1), true);
        is(t.x.keep(2), false);
        is(t.x.keep(-1), false);
        // what is kept is a copy, under each number another one
        t.x.mount(1, 0);
        t.x.ride(3);
        t.x.keep(1);
        t.x.again(0);
        is(t.x.count(3), -1);
        is(t.x.rider(1, 1), 0);
        is(t.x.rider(1, 3), -1);
        t.x.again(1);
        is(t.x.count(3), 1);
        is(t.x.count(4), 0);
        is(t.x.count(2), 1);
        is(t.x.count(5), 3);
        is(t.x.rider(1, 1), 3);
        is(t.x.rider(1, 3), 0);
        is(t.x.rider(0, 2), 1);
        is(new Probe().x.keep(0), true);
    }

    private static void again() {
        Probe t = Probe.county();
        is(t.x.again(0), false);
        is(t.x.again(2), false);
        is(t.x.again(-1), false);
        t.journey("w00;w10");
        t.x.keep(1);
        is(t.x.again(0), false);
        t.x.deal(0, 1);
        is(t.x.again(1), true);
        is(t.x.view(1, 1), 2);
        is(t.x.again(1), true);
        is(t.x.count(9), 0);
        // SPENT is MIND at most
        Probe u = Probe.county();
        u.journey("m10;r2;d");
        u.x.keep(0);
        u.x.sheet(2, 3, 1, 0);
        is(u.x.again(0), true);
        is(u.x.rider(1, 1), 1);
        u.x.sheet(2, 3, 9, 0);
        is(u.x.rider(1, 1), 1);
        is(u.x.again(0), true);
        is(u.x.rider(1, 1), 2);
        // RIDERS came since
        u.riders("");
        is(u.x.again(0), true);
        u.riders("0:0000");
        is(u.x.again(0), true);
        u.riders("1:0000");
        is(u.x.again(0), false);
        u.x.keep(0);
        is(u.x.again(0), true);
        u.roads("a");
        is(u.x.again(0), false);
    }

    private static void count() {
        Probe t = Probe.county();
        t.prints("abc");
        t.journey("w20;w22;m10;r3");
        t.x.sign(0);
        int[] want = {4, 3, 1, 1, 0, 3, 2, 2, 3, 1, 2, 4};
        for (int what = 0; what < 12; what++) {
            is(t.x.count(what), want[what]);
        }
        is(Probe.stubborn().x.count(6), 3);
        Probe six = new Probe("ab;bc;ca", "9:000;9:000;9:000;9:000;9:000;9:111");
        six.x.mount(5, 4);
        is(six.x.count(3), 5);
        is(six.x.count(4), 4);
        is(six.x.view(5, 2), 1);
        is(six.x.view(4, 2), 0);
        six.x.ride(3);
        is(six.x.count(5), 3);
        is(six.x.view(5, 2), 1);
        is(six.x.count(2), 0);
        is(t.x.count(12), -100);
        is(t.x.count(-1), -100);
        is(t.x.count(Integer.MIN_VALUE), -100);
    }

    private static void row() {
        Probe t = Probe.county();
        t.x.stops(1, 0, 0);
        is(t.x.row(0), 1);
        is(t.x.row(2), 1);
        none(() -> t.x.row(3));
        none(() -> t.x.row(-1));
        none(() -> t.x.row(Integer.MAX_VALUE));
        t.x.agree(0, 2);
        is(t.x.row(0), 3);
        none(() -> t.x.row(1));
        // calls that tell none leave it
        t.x.agree(0, 0);
        t.x.mount(0, 1);
        t.x.undo();
        t.roads("a");
        is(t.x.row(0), 3);
        t.prints("a");
        t.x.views();
        none(() -> t.x.row(0));
    }
}

/** Edges of promises 35 to 44: prints, kinds of views, a county, what is kept, counts. */
public final class EdgesOfPrintsTest extends Edges {
    private static final int[] NO_PLACE = {4, 10, -1, Integer.MAX_VALUE, Integer.MIN_VALUE};
    private static final int[] NO_BITS = {8, 9, 15, 64, -1, -8, Integer.MAX_VALUE, Integer.MIN_VALUE};

    public static void main(String[] args) {
        prints();
        fits();
        views();
        editions();
        kinds();
        rides();
        draws();
        countyRefused();
        keep();
        again();
        count();
        row();
        finishEdges();
    }

    private static void prints() {
        promise(35);
        edge("Hoof prints: THE TEXT tells PLACES by which THE HORSE came, one behind the other (1 to 20 letters a .. j): how many.", () -> {
            Probe t = Probe.county();
            is(t.prints("d"), 1);
            is(t.x.count(8), 1);
            is(t.prints("abcdabcdabcdabcdabcd"), 20);
            is(t.x.count(8), 20);
            // told anew
            is(t.prints("abc"), 3);
            is(t.x.count(8), 3);
            is(t.x.count(11), 0);
            Probe ten = new Probe("-;-;-;-;-;-;-;-;-;-", "");
            is(ten.prints("jihgfedcba"), 10);
        });
        edge("-1 - p: the sign at p can't stand there (its end for none; a letter of no PLACE; a 21st sign: at it).", () -> {
            Probe t = Probe.county();
            t.prints("ab");
            t.x.agree(0, 1);
            Object[][] faults = {
                {"", 0}, {"e", 0}, {"j", 0}, {"k", 0}, {"`", 0}, {"A", 0}, {"abce", 3}, {"ab;", 2}, {"a b", 1}, {"aa!", 2},
                {"abcdabcdabcdabcdabcda", 20}, {"abcdabcdabcdabcdabcdx", 20}, {"abcdabcdabcdabcdabcex", 19},
                {"abcdabcdabcdabcdabcdabcdabcd", 20}};
            for (Object[] f : faults) {
                t.idle(() -> t.prints((String) f[0]), -1 - (int) f[1]);
            }
            // those before stay
            t.due(t.x.fits(), 2, 1, 0);
            fault(0, new Probe().prints("a"));
            fault(10, new Probe("-;-;-;-;-;-;-;-;-;-", "").prints("jihgfedcbak"));
        });
    }

    private static void fits() {
        promise(36);
        edge("Pairs (in both orders; as they are) whose ride from the first print goes on just as all prints are"
            + " (it may go on behind them): how many; the ROW: the first pair (none without).", () -> {
            Probe t = Probe.county();
            fitting(t, "a", 6, 0, 1);
            fitting(t, "d", 6, 0, 1);
            fitting(t, "ab", 2, 1, 0);
            fitting(t, "aba", 1, 1, 0);
            fitting(t, "abab", 1, 1, 0);
            fitting(t, "abc", 1, 1, 2);
            fitting(t, "ac", 2, 0, 1);
            // it STOPS there
            fitting(t, "ababa", 0);
            fitting(t, "da", 0);
            fitting(t, "aa", 0);
            // as they are: 1 has 1 MIND left, and none
            t.journey("m10;r2");
            fitting(t, "ab", 2, 1, 0);
            fitting(t, "aba", 0);
            t.x.ride(1);
            fitting(t, "ab", 0);
            // from the first print on it is a ride begun anew
            Probe u = new Probe("ab;ba", "9:00;9:11");
            u.rule("s=1");
            u.journey("m01;r1");
            fitting(u, "aab", 2, 0, 1);
            // 20 prints are 19 STEPS, and 1 has SPENT 1
            u.rule("0");
            u.x.sheet(2, 2, 20, 0);
            fitting(u, "aaaaaaaaaaaaaaaaaaaa", 2, 0, 1);
            u.x.sheet(2, 2, 19, 0);
            fitting(u, "aaaaaaaaaaaaaaaaaaaa", 0);
            fitting(u, "aaaaaaaaaaaaaaaaaaa", 2, 0, 1);
            fitting(new Probe("a", "9:0"), "a", 0);
        });
        edge("-2: no prints were told.", () -> {
            Probe t = Probe.county();
            t.x.agree(0, 1);
            t.idle(t.x::fits, -2);
            t.prints("ax");
            t.idle(t.x::fits, -2);
            t.prints("ab");
            t.roads("bc;cab!;a;-");
            t.idle(t.x::fits, -2);
            t.idle(new Probe().x::fits, -2);
        });
    }

    private static void fitting(Probe t, String prints, int want, int... row) {
        is(t.prints(prints), prints.length());
        t.due(t.x.fits(), want, row);
    }

    private static void viewing(Probe t, String prints, int want, int... row) {
        is(t.prints(prints), prints.length());
        t.due(t.x.views(), want, row);
    }

    private static void views() {
        promise(37);
        edge("At how many prints (but the last) there are two unlike VIEWS of THE FIRST and THE SECOND by which it would go to the"
            + " next one (s by prints, m, n 9): how many;", () -> {
            Probe t = Probe.county();
            viewing(t, "a", 0);
            viewing(t, "d", 0);
            viewing(t, "abab", 3, 1, 2, 1);
            viewing(t, "ab", 1, 1);
            // one WAY: VIEWS are alike; no WAYS; no WAY there
            viewing(t, "ca", 0);
            viewing(t, "da", 0);
            viewing(t, "ad", 0);
            viewing(t, "dabd", 1, 1);
            // s 1 at the second print, s 0 at the first
            t.rule("2*(s=1)*(m=9)*(n=9)");
            viewing(t, "bbbb", 1, 6);
            t.rule("2*(s=0)");
            viewing(t, "bbbb", 1, 6);
            t.rule("2*(s=18)");
            viewing(t, "bbbbbbbbbbbbbbbbbbbb", 1, 6);
            // a of THE FIRST, b of THE SECOND, k and p of the print
            t.rule("2*(a=1)*(b=0)*(k=3)*(p=1)");
            viewing(t, "bb", 1, 1);
            // RIDERS are not asked for
            Probe nobody = new Probe("bbb;aab", "");
            viewing(nobody, "abab", 3, 6, 4, 6);
        });
        edge("the ROW: for each of these (the first 15) how many pairs of VIEWS.", () -> {
            Probe t = new Probe("aba;ab", "");
            viewing(t, "aaaaaaaaaaaaaaaa", 15, 4, 4, 4, 4, 4, 4, 4, 4, 4, 4, 4, 4, 4, 4, 4);
            viewing(t, "aaaaaaaaaaaaaaa", 14, 4, 4, 4, 4, 4, 4, 4, 4, 4, 4, 4, 4, 4, 4);
            viewing(t, "aaaaaaaaaaaaaaaaa", 16, 4, 4, 4, 4, 4, 4, 4, 4, 4, 4, 4, 4, 4, 4, 4);
            viewing(t, "aaaaaaaaaaaaaaaaaaab", 19, 4, 4, 4, 4, 4, 4, 4, 4, 4, 4, 4, 4, 4, 4, 4);
            viewing(t, "abbbaa", 5, 2, 1, 1, 1, 4);
            viewing(new Probe("bc;cab!;a;-", ""), "abbadacadcab", 5, 1, 2, 2, 1, 1);
        });
        edge("-2: no prints were told.", () -> {
            Probe t = Probe.county();
            t.x.agree(0, 1);
            t.idle(t.x::views, -2);
            t.prints("");
            t.idle(t.x::views, -2);
            t.prints("ab");
            t.roads("bc;cab!;a;-");
            t.idle(t.x::views, -2);
        });
    }

    private static void editions() {
        promise(38);
        edge("How many different MAPS (digits; whoever goes by them) RIDERS told as bits have: how many;"
            + " the ROW: for each told, rising, which it is (0 first; each new one the next number).", () -> {
            Probe t = Probe.county();
            t.due(t.x.editions(0), 0);
            t.due(t.x.editions(4), 1, 0);
            t.due(t.x.editions(7), 3, 0, 1, 2);
            t.riders("7:0110;8:0000;9:1200");
            t.due(t.x.editions(63), 3, 0, 1, 2, 2, 0, 1);
            t.due(t.x.editions(60), 3, 0, 0, 1, 2);
            t.due(t.x.editions(17), 1, 0, 0);
            // whoever goes by them
            t.journey("m10;r3");
            is(t.x.count(6), 2);
            t.due(t.x.editions(3), 2, 0, 1);
            // digits, not VIEWS: also where no WAYS are, and the last of ten
            Probe u = new Probe("-;-;-;-;-;-;-;-;-;-", "1:0000000000;1:0000000001;1:2000000000;1:1000000000");
            u.due(u.x.editions(15), 4, 0, 1, 2, 3);
            // of no PLACES there is one MAP
            Probe none = new Probe();
            none.riders("1:;2:");
            none.due(none.x.editions(3), 1, 0, 0);
            // a deal changes them
            Probe d = new Probe("-!", "1:0;1:1;1:1");
            d.due(d.x.editions(7), 2, 0, 1, 1);
            d.x.deal(0, 1);
            d.due(d.x.editions(7), 2, 0, 1, 0);
        });
        edge("NONE: bits of none such.", () -> {
            Probe t = Probe.county();
            t.x.agree(0, 1);
            for (int those : NO_BITS) {
                t.idle(() -> t.x.editions(those), -1);
            }
            Probe six = new Probe("a", "1:0;1:0;1:0;1:0;1:0;1:0");
            six.due(six.x.editions(63), 1, 0, 0, 0, 0, 0, 0);
            six.idle(() -> six.x.editions(64), -1);
        });
    }

    private static void kinds() {
        promise(39);
        edge("How many different VIEWS RIDERS told as bits have at a PLACE; the ROW: the VIEW of the most"
            + " (the least of equal ones; NONE: nobody is told, no WAYS), of how many.", () -> {
            Probe t = Probe.county();
            t.due(t.x.kinds(7, 0), 2, 0, 2);
            t.due(t.x.kinds(7, 1), 3, 0, 1);
            t.due(t.x.kinds(6, 1), 2, 1, 1);
            t.due(t.x.kinds(2, 1), 1, 2, 1);
            t.due(t.x.kinds(7, 2), 1, 0, 3);
            t.due(t.x.kinds(7, 3), 0, -1, 0);
            t.due(t.x.kinds(0, 3), 0, -1, 0);
            t.due(t.x.kinds(0, 0), 0, -1, 0);
            // the most, though it is not the least
            t.riders("1:0200;1:0200;1:0100");
            t.due(t.x.kinds(63, 1), 3, 2, 3);
            t.due(t.x.kinds(47, 1), 3, 1, 2);
            // VIEWS, not digits, by the MAPS that they go by
            Probe u = new Probe("ab;a", "1:00;1:20");
            u.due(u.x.kinds(3, 0), 1, 0, 2);
            Probe s = Probe.stubborn();
            s.due(s.x.kinds(7, 0), 2, 1, 2);
            s.due(s.x.kinds(1, 0), 1, 1, 1);
        });
        edge("NONE: others.", () -> {
            Probe t = Probe.county();
            t.x.agree(0, 1);
            for (int those : NO_BITS) {
                t.idle(() -> t.x.kinds(those, 0), -1);
                t.idle(() -> t.x.kinds(those, 3), -1);
            }
            for (int p : NO_PLACE) {
                t.idle(() -> t.x.kinds(7, p), -1);
                t.idle(() -> t.x.kinds(0, p), -1);
            }
        });
    }

    private static void rides() {
        promise(40);
        edge("n rides (1 .. 60), RIDERS fresh in each, from where the last one ended (the first from where THE HORSE is):", () -> {
            Probe t = new Probe("bb;cc;dd;-", "1:0000;1:1111");
            t.due(t.x.county(0, 1), 1, 1, 0, 0);
            t.due(t.x.county(0, 2), 2, 2, 0, 0);
            t.due(t.x.county(0, 3), 3, 3, 0, 0);
            t.due(t.x.county(0, 4), 3, 3, 0, 1);
            t.due(t.x.county(0, 60), 3, 3, 0, 57);
            t.x.lead(0, 0);
            t.due(t.x.county(0, 2), 2, 3, 0, 0);
            // fresh, however they are, and s begins anew
            t.x.walk(1, 0);
            t.journey("m01;r9");
            is(t.x.count(6), 2);
            is(t.x.count(2), 2);
            t.due(t.x.county(0, 1), 1, 3, 0, 0);
            Probe u = new Probe("ab;ab", "9:00;9:11");
            u.rule("s=1");
            u.due(u.x.county(0, 1), 9, 0, 0, 0);
            u.due(u.x.county(0, 2), 18, 0, 0, 0);
            // rides go by MAPS as they are dealt
            Probe d = new Probe("bc!;-;-", "9:000;9:100");
            d.rule("a");
            d.due(d.x.county(0, 1), 1, 1, 0, 0);
            d.x.deal(0, 1);
            d.due(d.x.county(0, 1), 1, 2, 0, 0);
        });
        edge("at most 20 STEPS each: STEPS in all;", () -> {
            Probe t = new Probe("aa", "99:0;99:1");
            t.due(t.x.county(0, 1), 20, 0, 0, 0);
            t.due(t.x.county(0, 60), 1200, 0, 0, 0);
            t.x.sheet(2, 2, 20, 0);
            t.due(t.x.county(5, 1), 20, 0, 0, 0);
            t.x.sheet(2, 2, 19, 0);
            t.due(t.x.county(5, 1), 19, 0, 0, 0);
            t.x.sheet(2, 2, 21, 0);
            t.due(t.x.county(5, 2), 40, 0, 0, 0);
        });
        edge("the ROW: where it ends, who rode the most STEPS (the first; NONE), how many rides were of no STEP.", () -> {
            // 1 and 2, then 2 and 0
            Probe t = new Probe("aa", "9:1;5:1;7:0");
            int seed = seedOf(1, 2, 2, 0);
            t.due(t.x.county(seed, 1), 5, 0, 1, 0);
            t.due(t.x.county(seed, 2), 12, 0, 2, 0);
            // 0 and 1 are of one mind
            t.due(t.x.county(seedOf(0, 1, 1, 0), 2), 0, 0, -1, 2);
            t.due(t.x.county(seedOf(0, 1, 1, 2), 2), 5, 0, 1, 1);
            Probe nowhere = new Probe("-", "9:0;9:1");
            nowhere.due(nowhere.x.county(7, 5), 0, 0, -1, 5);
            Probe none = new Probe();
            none.riders("1:;2:");
            none.due(none.x.county(7, 60), 0, 0, -1, 60);
            // six RIDERS: seed 143 draws 5 and 4, seed 4 draws 5 and 0
            Probe six = new Probe("aa", "9:0;9:0;9:0;9:0;3:0;9:1");
            six.due(six.x.county(143, 1), 3, 0, 4, 0);
            six.due(six.x.county(4, 1), 9, 0, 0, 0);
        });
    }

    /** The n-th number drawn by a seed, of three. */
    private static int drawn(int seed, int n) {
        long r = seed & 0xffffffffL;
        for (int i = 0; i < n; i++) {
            r = (r * 1103515245L + 12345L) % 4294967296L;
        }
        return (int) (r / 65536 % 3);
    }

    /** The first seed by which these are drawn of three. */
    private static int seedOf(int... numbers) {
        for (int seed = 0; seed < 10000; seed++) {
            boolean all = true;
            for (int i = 0; i < numbers.length; i++) {
                all = all && drawn(seed, i + 1) == numbers[i];
            }
            if (all) {
                return seed;
            }
        }
        throw new IllegalStateException("no such seed");
    }

    /** The pair that rides first in a county of three by a seed: a leads where THE FIRST would, b THE SECOND. */
    private static void drawing(int seed, int first, int second) {
        Probe t = new Probe("bcd;-;-;-", "9:0000;9:1000;9:2000");
        t.rule("a");
        t.due(t.x.county(seed, 1), 1, 1 + first, Math.min(first, second), 0);
        t.rule("b");
        t.due(t.x.county(seed, 1), 1, 1 + second, Math.min(first, second), 0);
    }

    private static void draws() {
        edge("for each two DRAWS of how many RIDERS there are tell THE FIRST, THE SECOND (the same twice: the next number, or 0,"
            + " is THE SECOND);", () -> {
            drawing(0, 0, 2);
            drawing(2, 1, 2);
            drawing(3, 1, 0);
            drawing(13, 0, 1);
            drawing(36, 2, 1);
            // 0 and 0, 1 and 1, 2 and 2
            drawing(9, 0, 1);
            drawing(8, 1, 2);
            drawing(20, 2, 0);
        });
        edge("A DRAW of n: R = R times 1103515245 + 12345 (as ints; R is seed at first), (R without sign, by 65536) % n.", () -> {
            for (int seed : new int[] {1, 5, 77, -1, -2, 123456789, Integer.MAX_VALUE, Integer.MIN_VALUE}) {
                int first = drawn(seed, 1);
                int second = drawn(seed, 2);
                drawing(seed, first, first == second ? (second + 1) % 3 : second);
            }
        });
    }

    private static void countyRefused() {
        edge("-2: there are fewer than two; NONE: another n.", () -> {
            Probe t = Probe.county();
            t.x.agree(0, 1);
            for (int n : new int[] {0, 61, -1, Integer.MAX_VALUE, Integer.MIN_VALUE}) {
                t.idle(() -> t.x.county(1, n), -1);
                Probe nobody = new Probe();
                nobody.idle(() -> nobody.x.county(1, n), -1);
            }
            Probe one = new Probe("aa", "9:0");
            one.idle(() -> one.x.county(1, 1), -2);
            one.idle(() -> one.x.county(1, 60), -2);
            Probe nobody = new Probe("aa", "");
            nobody.idle(() -> nobody.x.county(1, 1), -2);
        });
    }

    private static void keep() {
        promise(41);
        edge("THE HORSE, who is on it, of RIDERS SPENT, PLACE, CONVINCED, MAPS, STEPS of this ride are kept under a number 0 .. 1: true.", () -> {
            Probe t = Probe.county();
            String atFirst = t.state();
            is(t.x.keep(0), true);
            t.journey("w20;w00;x02;w02;w01;m10;r9");
            t.journey("d;w00;w10;l20;w00");
            t.roads("bc;cab!;a;-");
            t.riders(Probe.RIDERS);
            is(t.x.keep(0), true);
            t.journey("w20;w00;x02;w01;m10;r2");
            String later = t.state();
            is(t.x.keep(1), true);
            t.journey("r9;d;w00");
            is(t.x.again(0), true);
            is(t.state(), atFirst);
            is(t.x.again(1), true);
            is(t.state(), later);
            is(t.x.again(1), true);
            is(t.state(), later);
            // kept anew
            t.x.dismount();
            String last = t.state();
            is(t.x.keep(1), true);
            t.x.again(0);
            t.x.again(1);
            is(t.state(), last);
            // what is kept is not changed by what is done then
            t.x.walk(0, 0);
            t.x.again(1);
            is(t.state(), last);
            is(new Probe().x.keep(1), true);
        });
        edge("Refused: others.", () -> {
            Probe t = Probe.county();
            for (int i : new int[] {2, -1, 32, Integer.MAX_VALUE, Integer.MIN_VALUE}) {
                t.idle(() -> t.x.keep(i) ? 1 : 0, 0);
                t.idle(() -> t.x.again(0) || t.x.again(1) || t.x.again(i) ? 1 : 0, 0);
            }
        });
    }

    private static void again() {
        promise(42);
        edge("They are as they were kept under a number (SPENT MIND at most).", () -> {
            Probe t = Probe.county();
            t.journey("m10;r2");
            t.x.keep(0);
            t.x.ride(1);
            t.x.sheet(2, 3, 1, 0);
            is(t.x.again(0), true);
            is(t.x.rider(1, 0), 1);
            is(t.x.rider(1, 1), 1);
            is(t.x.rider(1, 3), -1);
            is(t.x.count(5), 2);
            is(t.x.count(3), 1);
            // what was kept has 2 SPENT still
            t.x.sheet(2, 3, 9, 0);
            is(t.x.rider(1, 1), 1);
            is(t.x.again(0), true);
            is(t.x.rider(1, 1), 2);
            is(t.x.rider(1, 0), 9);
            // MINDS, prints, THE RULE and THE TEXT are none of it
            t.prints("ab");
            t.text("zz");
            t.x.agree(0, 1);
            is(t.x.again(0), true);
            is(t.x.count(8), 2);
            is(t.x.count(11), 2);
            is(t.x.count(10), 1);
        });
        edge("Refused: nothing kept, RIDERS came since.", () -> {
            Probe t = Probe.county();
            t.x.walk(0, 0);
            t.idle(() -> t.x.again(0) ? 1 : 0, 0);
            t.idle(() -> t.x.again(1) ? 1 : 0, 0);
            t.x.keep(1);
            t.idle(() -> t.x.again(0) ? 1 : 0, 0);
            for (int i : new int[] {2, -1, 33, Integer.MAX_VALUE, Integer.MIN_VALUE}) {
                t.idle(() -> t.x.again(i) ? 1 : 0, 0);
            }
            // such as did not come
            t.riders("");
            t.riders("0:0000");
            is(t.x.again(1), true);
            t.x.keep(0);
            t.riders("1:0000");
            t.idle(() -> t.x.again(0) ? 1 : 0, 0);
            t.idle(() -> t.x.again(1) ? 1 : 0, 0);
            t.x.keep(1);
            t.idle(() -> t.x.again(0) ? 1 : 0, 0);
            is(t.x.again(1), true);
            t.roads("x");
            is(t.x.again(1), true);
            t.roads("a");
            t.idle(() -> t.x.again(1) ? 1 : 0, 0);
        });
    }

    private static void count() {
        promise(43);
        edge("What 0: PLACES, 1: RIDERS, 2: where THE HORSE is, 3: THE FIRST (NONE), 4: THE SECOND (NONE),"
            + " 5: STEPS of this ride (0 if nobody is on it), 6: who is CONVINCED (bits), 7: INNS (bits), 8: prints,"
            + " 9: what can be undone, 10: numbers of the ROW, 11: signs of THE TEXT.", () -> {
            Probe t = Probe.county();
            t.prints("abc");
            counts(t, 4, 3, 0, -1, -1, 0, 0, 2, 3, 0, 0, 0);
            t.journey("m10;r3");
            t.x.sign(0);
            counts(t, 4, 3, 1, 1, 0, 3, 2, 2, 3, 1, 2, 4);
            t.x.dismount();
            t.x.agree(0, 1);
            t.x.end(1);
            counts(t, 4, 3, 1, -1, -1, 0, 2, 2, 3, 2, 1, 1);
            // of a ride that goes on in a second ride(), and anew by mount()
            t.x.rest(1);
            t.x.mount(0, 1);
            is(t.x.count(5), 0);
            t.x.ride(1);
            is(t.x.count(5), 1);
            is(Probe.stubborn().x.count(6), 3);
            Probe most = new Probe("-!;-!;-!;-!;-!;-!;-!;-!;-!;-!", "");
            is(most.x.count(7), 1023);
            is(most.x.count(0), 10);
        });
        edge("-100 for another what.", () -> {
            Probe t = Probe.county();
            for (int what : new int[] {12, 13, -1, -100, Integer.MAX_VALUE, Integer.MIN_VALUE}) {
                t.idle(() -> t.x.count(what), -100);
            }
        });
    }

    private static void counts(Probe t, int... want) {
        for (int what = 0; what < want.length; what++) {
            is(t.x.count(what), want[what]);
        }
    }

    private static void row() {
        promise(44);
        edge("Number i of the ROW.", () -> {
            Probe t = Probe.county();
            t.x.stops(1, 0, 0);
            is(t.x.row(0), 1);
            is(t.x.row(1), 1);
            is(t.x.row(2), 1);
            t.x.record(0);
            is(t.x.row(0), 1);
            is(t.x.row(1), 0);
            is(t.x.row(2), 1);
        });
        edge("NoSuchElementException: none such.", () -> {
            Probe t = Probe.county();
            none(() -> t.x.row(0));
            t.x.stops(1, 0, 0);
            for (int i : new int[] {3, 15, 16, -1, Integer.MAX_VALUE, Integer.MIN_VALUE}) {
                none(() -> t.x.row(i));
            }
            // a shorter one, and none
            t.x.agree(0, 1);
            is(t.x.row(0), 2);
            none(() -> t.x.row(1));
            t.x.editions(0);
            none(() -> t.x.row(0));
            Probe long15 = new Probe("aaa", "");
            long15.prints("aaaaaaaaaaaaaaaaaaaa");
            long15.x.views();
            is(long15.x.row(14), 6);
            none(() -> long15.x.row(15));
        });
    }
}

/** Edges of promises 1 to 10: THE TEXT, the roads, the riders, THE RULE, sheets. */
public final class EdgesOfTextsTest extends Edges {
    public static void main(String[] args) {
        fresh();
        sign();
        end();
        roads();
        roadsFaults();
        riders();
        ridersFaults();
        rule();
        place();
        rider();
        view();
        sheet();
        sheetRefused();
        finishEdges();
    }

    private static void fresh() {
        promise(1);
        edge("No PLACES, no RIDERS.", () -> {
            Probe t = new Probe();
            OfDifferentMinds x = t.x;
            int[] counts = {0, 0, 0, -1, -1, 0, 0, 0, 0, 0, 0, 0};
            for (int what = 0; what < counts.length; what++) {
                is(x.count(what), counts[what]);
            }
            none(() -> x.place(0, 0));
            none(() -> x.rider(0, 0));
            none(() -> x.row(0));
            int[] refused = {
                x.view(0, 0), x.mount(0, 1), x.walk(0, 0), x.lead(0, 0), x.rest(0), x.deal(0, 1), x.undo(), x.stops(0, 1, 0),
                x.trail(0, 1, 0), x.reaches(0, 1, 0, 0), x.pairs(0, 0), x.changes(0, 0), x.stations(0), x.foot(0, 0),
                x.record(0), x.matches(0, 0), x.partner(0, 0), x.agree(0, 1), x.convinces(0, 1, 0), x.lie(0, 0),
                x.editions(1), x.kinds(0, 0), x.roads(), x.prints()};
            for (int answer : refused) {
                is(answer, -1);
            }
            int[] notNow = {x.dismount(), x.ride(1), x.claim(0, 0), x.fits(), x.views(), x.county(1, 1)};
            for (int answer : notNow) {
                is(answer, -2);
            }
            is(x.sheet(2, 6, 5, 1), 0);
            is(x.sheet(3, 0, 0, 0), -3);
            is(x.riders(), 0);
            is(x.rule(), 0);
            t.due(x.editions(0), 0);
            t.due(x.journey(), 0, 0, 0);
            t.due(x.where(0), 0, 0, 1);
            is(x.again(0), false);
            is(x.keep(0), true);
            is(x.again(0), true);
        });
    }

    private static void sign() {
        promise(2);
        edge("Four signs come behind THE TEXT, of v the highest byte first: how many it has.", () -> {
            Probe t = new Probe();
            is(t.x.sign('c' << 24 | ';' << 16 | '-' << 8 | '!'), 4);
            is(t.x.sign(';' << 24 | 'a' << 16 | 'b' << 8 | ';'), 8);
            is(t.x.end(7), true);
            is(t.x.sign('c' << 24 | '!' << 16), 11);
            is(t.x.end(9), true);
            is(t.x.count(11), 9);
            is(t.x.roads(), 3);
            is(t.x.place(0, 1), 2);
            is(t.x.place(1, 0), 0);
            is(t.x.place(2, 0), 3);
            is(t.x.place(2, 3), 2);
            is(t.x.count(7), 6);
            // signs beyond 127 are signs too, and such as can't stand there
            t.x.sign('a' << 24 | 0xe1 << 16);
            fault(1, t.x.roads());
            t.x.sign(0xe1 << 24);
            fault(0, t.x.roads());
        });
        edge("Refused: there would be more than 80.", () -> {
            Probe t = new Probe();
            for (int n = 4; n <= 80; n += 4) {
                is(t.x.sign(0x61616161), n);
            }
            t.idle(() -> t.x.sign(0x61616161), -1);
            t.x.end(77);
            t.idle(() -> t.x.sign(0x61616161), -1);
            is(t.x.count(11), 77);
            t.x.end(76);
            is(t.x.sign(0x61616161), 80);
        });
    }

    private static void end() {
        promise(3);
        edge("THE TEXT has its first n signs alone: true;", () -> {
            Probe t = new Probe();
            is(t.x.end(0), true);
            t.x.sign('a' << 24 | ';' << 16 | 'b' << 8 | ';');
            is(t.x.end(4), true);
            is(t.x.count(11), 4);
            is(t.x.end(3), true);
            is(t.x.count(11), 3);
            is(t.x.roads(), 2);
            t.x.sign(-1);
            is(t.x.end(0), true);
            is(t.x.count(11), 0);
        });
        edge("false if it has not so many, or n is below 0.", () -> {
            Probe t = new Probe();
            is(t.x.end(1), false);
            t.x.sign(0x61616161);
            for (int n : new int[] {5, 6, 80, Integer.MAX_VALUE, -1, -4, Integer.MIN_VALUE}) {
                is(t.x.end(n), false);
                is(t.x.count(11), 4);
            }
            t.x.end(3);
            is(t.x.end(4), false);
        });
    }

    private static void roads() {
        promise(4);
        edge("THE TEXT is THE ROADS anew: how many PLACES;", () -> {
            Probe t = new Probe();
            is(t.roads("aaa!;bbb!;ccc!;ddd!;eee!;fff!;ggg!;hhh!;iii!;jjj!"), 10);
            is(t.roads("-"), 1);
            is(t.x.place(0, 0), 0);
            is(t.x.place(0, 1), -1);
            is(t.x.count(7), 0);
            none(() -> t.x.place(1, 0));
            is(t.x.count(11), 0);
            // of what was told before, nothing shines through
            is(t.roads("a;ba"), 2);
            is(t.x.place(0, 0), 1);
            is(t.x.place(0, 2), -1);
            is(t.x.place(1, 0), 2);
            is(t.x.place(1, 1), 1);
        });
        edge("there are no RIDERS, THE HORSE is at PLACE 0 with nobody on it, no prints, nothing can be undone, nothing is kept.", () -> {
            Probe t = Probe.county();
            t.prints("ab");
            t.x.keep(0);
            t.x.keep(1);
            t.journey("m10;r3");
            is(t.x.count(2), 1);
            is(t.x.count(6), 2);
            is(t.roads("bc;cab!;a;-"), 4);
            int[] counts = {4, 0, 0, -1, -1, 0, 0, 2, 0, 0};
            for (int what = 0; what < counts.length; what++) {
                is(t.x.count(what), counts[what]);
            }
            is(t.x.again(0), false);
            is(t.x.again(1), false);
            is(t.x.undo(), -1);
            is(t.x.fits(), -2);
            is(t.x.place(0, 5), 0);
            none(() -> t.x.rider(0, 0));
            // THE RULE stays
            t.rule("1");
            t.roads("abc;abc;abc");
            t.riders("9:000;9:111");
            is(t.x.reaches(0, 1, 0, 1), 1);
        });
    }

    private static void roadsFaults() {
        edge("-1 - p: the sign at p can't stand there (its end, if it ends too early;", () -> {
            Probe t = Probe.county();
            t.prints("ab");
            t.x.keep(0);
            t.x.mount(1, 0);
            String before = t.whole();
            fault(0, t.roads(""));
            fault(2, t.roads("a;"));
            fault(3, t.roads("-!;"));
            fault(5, t.roads("aaa!;"));
            fault(18, t.roads("a;a;a;a;a;a;a;a;a;"));
            fault(0, t.roads("x"));
            fault(0, t.roads("\u0000"));
            fault(1, t.roads("a "));
            fault(4, t.roads("a;b!x;"));
            is(t.whole(), before);
            is(t.x.again(0), true);
        });
        edge("76, if it has more and the first 76 could go on or end;", () -> {
            // ten LINES have 49 signs at most, so what is too long is so by its eleventh LINE
            Probe t = new Probe();
            String ten = "aaa!;aaa!;aaa!;aaa!;aaa!;aaa!;aaa!;aaa!;aaa!;aaa!";
            fault(50, t.roads((ten + ";" + ten).substring(0, 76)));
            fault(50, t.roads((ten + ";" + ten).substring(0, 77)));
            fault(50, t.roads((ten + ";" + ten).substring(0, 80)));
            fault(49, t.roads((ten + ten).substring(0, 80)));
        });
        edge("the first sign of an eleventh LINE;", () -> {
            Probe t = new Probe();
            String ten = "-;-;-;-;-;-;-;-;-;-";
            fault(20, t.roads(ten + ";-"));
            fault(20, t.roads(ten + ";x"));
            fault(20, t.roads(ten + ";;"));
            fault(20, t.roads(ten + ";"));
            fault(21, t.roads("a" + ten.substring(1) + "!;b"));
            // behind an earlier sign that can't stand there, but ahead of letters of no PLACE
            fault(19, t.roads(ten + "x"));
            fault(20, t.roads("j;j;j;j;j;j;j;j;j;j;j"));
            is(t.roads(ten), 10);
        });
        edge("else, a letter of a PLACE that is not told: the first such).", () -> {
            Probe t = new Probe();
            fault(0, t.roads("b"));
            fault(1, t.roads("ab"));
            fault(3, t.roads("a;bcj"));
            fault(0, t.roads("ca;ja"));
            fault(0, t.roads("j;a;a;a;a;a;a;a;a"));
            is(t.roads("j;a;a;a;a;a;a;a;a;a"), 10);
            is(t.roads("b;a"), 2);
            // what else can't stand there goes ahead, though it is behind
            fault(4, t.roads("j;a;"));
            fault(1, t.roads("jx"));
            fault(5, t.roads("j;aaaa"));
        });
    }

    private static void riders() {
        promise(5);
        edge("THE TEXT tells of RIDERS (an empty one: nothing): how many LINES.", () -> {
            Probe t = new Probe("aa!;b", "");
            is(t.x.count(1), 0);
            is(t.riders("5:00;6:12"), 2);
            t.x.keep(0);
            t.x.walk(0, 0);
            String before = t.whole();
            is(t.riders(""), 0);
            is(t.whole(), before);
            is(t.x.again(0), true);
            is(t.riders("7:00"), 1);
            is(t.riders("1:00;2:00;3:00"), 3);
            is(t.x.rider(5, 0), 3);
            is(t.riders(""), 0);
            is(t.roads("aa!;b"), 2);
            is(t.riders("1:00;2:00;3:00;4:00;5:00;6:00"), 6);
        });
        edge("Nothing of it comes, if a LINE can't.", () -> {
            Probe t = new Probe("aa!;b", "5:00;6:12");
            t.x.keep(0);
            t.x.mount(0, 1);
            String before = t.whole();
            fault(8, t.riders("7:00;8:03"));
            fault(10, t.riders("7:00;8:00;"));
            fault(20, t.riders("1:00;2:00;3:00;4:00;5:00"));
            is(t.whole(), before);
            is(t.x.undo(), 0);
            is(t.x.again(0), true);
        });
    }

    private static void ridersFaults() {
        edge("-1 - p: the sign at p can't stand there (as roads();", () -> {
            Probe t = new Probe("aa!;b", "");
            Object[][] faults = {
                {"x", 0}, {":", 0}, {";", 0}, {"5", 1}, {"55", 2}, {"555:00", 2}, {"5x", 1}, {"5:", 2}, {"5:0", 3}, {"5:0;", 3},
                {"5:000", 4}, {"5:00x", 4}, {"5:00;", 5}, {"5:00;5", 6}, {"5:00;;", 5}, {"5:00;x", 5}};
            for (Object[] f : faults) {
                fault((int) f[1], t.riders((String) f[0]));
            }
            // 76 signs could go on, could end, and have a fault of their own
            t.roads("-;-;-;-;-;-;-;-;-");
            String five = "99:000000000;99:000000000;99:000000000;99:000000000;99:000000000;";
            fault(76, t.riders(five + "99:000000000"));
            fault(76, t.riders(five + "99:00000000x0"));
            fault(76, t.riders(five + "9:000000000x"));
            fault(76, t.riders(five + "9:000000000;"));
            fault(76, t.riders(five + "99:00000000"));
            fault(75, t.riders(five + "99:0000000x0"));
            fault(75, t.riders(five + "9:00000000x0"));
            fault(75, t.riders(five + "9:00000000"));
            fault(65, t.riders(five + "0:0000000000"));
            is(t.riders(five + "9:000000000"), 6);
        });
        edge("MIND of 0: at its last digit;", () -> {
            Probe t = new Probe("aa!;b", "");
            fault(0, t.riders("0:00"));
            fault(1, t.riders("00:00"));
            fault(5, t.riders("5:00;0:00"));
            fault(6, t.riders("5:00;00:00"));
            fault(0, t.riders("0"));
            fault(0, t.riders("0x"));
            fault(1, t.riders("00"));
            fault(1, t.riders("001:00"));
            is(t.riders("01:00;10:00"), 2);
            is(t.x.rider(0, 0), 1);
            is(t.x.rider(1, 0), 10);
        });
        edge("a digit that is not 0 .. 2: at it;", () -> {
            Probe t = new Probe("aa!;b", "");
            for (char digit = '3'; digit <= '9'; digit++) {
                fault(2, t.riders("5:" + digit + "0"));
                fault(3, t.riders("5:0" + digit));
                fault(8, t.riders("5:00;5:2" + digit));
            }
            is(t.riders("5:01;5:20;5:12"), 3);
        });
        edge("the first sign of a LINE for which there is no room).", () -> {
            Probe t = new Probe("aa!;b", "");
            String six = "5:00;5:00;5:00;5:00;5:00;5:00";
            fault(30, t.riders(six + ";5:00"));
            fault(30, t.riders(six + ";x"));
            fault(30, t.riders(six + ";"));
            is(t.riders("5:00;5:00;5:00;5:00"), 4);
            fault(10, t.riders("5:00;5:00;5:00"));
            fault(10, t.riders("5:00;5:00;0"));
            fault(10, t.riders("5:00;5:00;"));
            is(t.riders("5:00;5:00"), 2);
            fault(0, t.riders("5:00"));
            fault(0, t.riders("x"));
            is(t.x.count(1), 6);
        });
    }

    private static void rule() {
        promise(6);
        edge("THE TEXT is THE RULE (an empty one: none): 0.", () -> {
            Probe t = new Probe("abc;a;a", "9:000;7:100");
            is(t.x.reaches(0, 1, 0, 2), 1);
            is(t.rule("1"), 0);
            is(t.x.reaches(0, 1, 0, 1), 1);
            is(t.rule(""), 0);
            is(t.x.reaches(0, 1, 0, 2), 1);
            is(t.rule("0*(p-p)+1"), 0);
            is(t.rule("1+0"), 0);
            is(t.x.reaches(0, 1, 0, 1), 1);
        });
        edge("-1 - p: as roads() (40 signs).", () -> {
            Probe t = new Probe("abc;a;a", "9:000;7:100");
            t.rule("1");
            String forty = "-1" + "+0".repeat(19);
            fault(40, t.rule(forty + "0"));
            fault(40, t.rule(forty + ")"));
            fault(40, t.rule(forty.substring(0, 39) + "(0"));
            fault(40, t.rule(forty.substring(0, 39) + "-0"));
            fault(40, t.rule("(" + forty));
            fault(39, t.rule(forty.substring(0, 39) + "x0"));
            fault(39, t.rule(forty.substring(0, 39) + ")0"));
            // its end, at 40 signs and at fewer
            fault(40, t.rule(forty.substring(0, 39) + "("));
            fault(39, t.rule(forty.substring(0, 39)));
            fault(2, t.rule("a*"));
            fault(1, t.rule("("));
            // a RULE that can't be leaves the one before
            is(t.x.reaches(0, 1, 0, 1), 1);
            is(t.x.count(11), 0);
            is(t.rule(forty), 0);
            is(t.x.reaches(0, 1, 0, 2), 1);
        });
    }

    private static void place() {
        promise(7);
        edge("Of a PLACE, what 0: how many WAYS, 1 .. 3: where WAY 0 .. 2 leads (NONE), 4: 1 if an INN,", () -> {
            Probe t = new Probe("-;c!;ab;cab!", "");
            int[][] want = {{0, -1, -1, -1, 0}, {1, 2, -1, -1, 1}, {2, 0, 1, -1, 0}, {3, 2, 0, 1, 1}};
            for (int p = 0; p < 4; p++) {
                for (int what = 0; what < 5; what++) {
                    is(t.x.place(p, what), want[p][what]);
                }
            }
        });
        edge("5: RIDERS (bits) that are there.", () -> {
            Probe t = new Probe("bb;a", "1:00;1:10;1:00;1:00;1:00;1:00");
            is(t.x.place(0, 5), 63);
            is(t.x.place(1, 5), 0);
            t.x.walk(5, 0);
            is(t.x.place(0, 5), 31);
            is(t.x.place(1, 5), 32);
            // on THE HORSE they are where it is
            t.journey("m01;r1");
            is(t.x.place(0, 5), 28);
            is(t.x.place(1, 5), 35);
            // RIDERS that were are there no more
            t.roads("bb;a");
            is(t.x.place(0, 5), 0);
            t.riders("1:00");
            is(t.x.place(0, 5), 1);
            is(Probe.county().x.place(0, 5), 7);
        });
        edge("NoSuchElementException: none such, another what.", () -> {
            Probe t = Probe.county();
            for (int p : new int[] {4, 10, -1, Integer.MAX_VALUE, Integer.MIN_VALUE}) {
                none(() -> t.x.place(p, 0));
                none(() -> t.x.place(p, 5));
            }
            for (int what : new int[] {6, -1, Integer.MAX_VALUE, Integer.MIN_VALUE}) {
                none(() -> t.x.place(0, what));
                none(() -> t.x.place(3, what));
            }
        });
    }

    private static void rider() {
        promise(8);
        edge("Of a RIDER, what 0: MIND, 1: SPENT, 2: PLACE, 3: by whom it is CONVINCED (NONE),", () -> {
            Probe t = Probe.county();
            t.journey("m10;r3");
            int[][] want = {{9, 0, 1, -1}, {3, 3, 1, 0}, {5, 0, 0, -1}};
            for (int r = 0; r < 3; r++) {
                for (int what = 0; what < 4; what++) {
                    is(t.x.rider(r, what), want[r][what]);
                }
            }
        });
        edge("4: its VIEW where it is (NONE: no WAYS),", () -> {
            Probe t = new Probe("bc;-;aaa", "1:002;1:012");
            is(t.x.rider(0, 4), 0);
            t.x.walk(0, 0);
            is(t.x.rider(0, 4), -1);
            t.x.walk(1, 1);
            is(t.x.rider(1, 4), 2);
            // no PLACES: no WAYS either
            Probe nowhere = new Probe();
            nowhere.riders("5:");
            is(nowhere.x.rider(0, 4), -1);
            is(nowhere.x.rider(0, 2), 0);
            // by the MAP that it goes by
            Probe s = Probe.stubborn();
            is(s.x.rider(0, 4), 1);
            is(s.x.rider(1, 4), 0);
        });
        edge("5: 1 if it is on THE HORSE.", () -> {
            Probe t = Probe.county();
            is(t.x.rider(0, 5), 0);
            t.x.mount(2, 1);
            is(t.x.rider(0, 5), 0);
            is(t.x.rider(1, 5), 1);
            is(t.x.rider(2, 5), 1);
            t.x.dismount();
            is(t.x.rider(1, 5) + t.x.rider(2, 5), 0);
        });
        edge("NoSuchElementException: likewise.", () -> {
            Probe t = Probe.county();
            for (int r : new int[] {3, 6, -1, Integer.MAX_VALUE, Integer.MIN_VALUE}) {
                none(() -> t.x.rider(r, 0));
                none(() -> t.x.rider(r, 5));
            }
            for (int what : new int[] {6, -1, Integer.MAX_VALUE, Integer.MIN_VALUE}) {
                none(() -> t.x.rider(0, what));
            }
        });
    }

    private static void view() {
        promise(9);
        edge("VIEW of a RIDER at a PLACE (by the MAP it goes by).", () -> {
            Probe t = Probe.stubborn();
            is(t.x.view(0, 0), 1);
            is(t.x.view(1, 0), 0);
            // as that MAP is by now, and by its own again when it has rested
            t.x.deal(0, 2);
            is(t.x.view(0, 0), 0);
            is(t.x.view(1, 0), 1);
            t.x.rest(0);
            is(t.x.view(0, 0), 1);
            Probe c = Probe.county();
            is(c.x.view(1, 1), 2);
            is(c.x.view(1, 0), 1);
        });
        edge("-2: no WAYS there; NONE: none such.", () -> {
            Probe t = Probe.county();
            is(t.x.view(0, 3), -2);
            is(t.x.view(2, 3), -2);
            is(t.x.view(3, 3), -1);
            is(t.x.view(-1, 3), -1);
            is(t.x.view(3, 0), -1);
            is(t.x.view(0, 4), -1);
            is(t.x.view(0, -1), -1);
            is(t.x.view(Integer.MAX_VALUE, 0), -1);
            is(t.x.view(0, Integer.MIN_VALUE), -1);
        });
    }

    private static void minds(Probe t, int... minds) {
        for (int r = 0; r < minds.length; r++) {
            is(t.x.rider(r, 0), minds[r]);
        }
    }

    private static void sheet() {
        promise(10);
        edge("MINDS of RIDERS 0, 1, .. (SPENT is no more than they are then), as a sheet tells them:", () -> {
            Probe t = new Probe("aa", "5:0;9:1");
            t.journey("m01;r3");
            t.x.sheet(2, 2, 4, 0);
            is(t.x.rider(0, 1), 3);
            t.x.sheet(2, 2, 3, 0);
            is(t.x.rider(0, 1), 3);
            is(t.x.rider(0, 3), -1);
            t.x.sheet(2, 2, 2, 0);
            is(t.x.rider(0, 1), 2);
            t.x.sheet(3, 0, 0, 0);
            is(t.x.rider(0, 1), 1);
            t.x.sheet(2, 2, 9, 0);
            is(t.x.rider(0, 1), 1);
            // it can't be undone
            is(t.x.count(9), 1);
        });
        edge("bytes (kind 0), shorts (1), ints (2) of n entries f, f + step, ..", () -> {
            Probe t = Probe.county();
            for (int kind = 0; kind < 3; kind++) {
                is(t.x.sheet(kind, 3, 5, 10), 5 + 15 + 25);
                minds(t, 5, 15, 25);
                is(t.x.sheet(kind, 3, 25, -10), 25 + 15 + 5);
                minds(t, 25, 15, 5);
                is(t.x.sheet(kind, 3, 7, 0), 21);
            }
        });
        edge("(of bytes, shorts the lowest bits, with their sign; put to 1 .. 99)", () -> {
            Probe t = Probe.county();
            t.x.sheet(0, 3, 99, 1);
            minds(t, 99, 99, 99);
            t.x.sheet(0, 3, 127, 1);
            minds(t, 99, 1, 1);
            t.x.sheet(0, 3, 255, 1);
            minds(t, 1, 1, 1);
            t.x.sheet(0, 3, 256 + 44, 256);
            minds(t, 44, 44, 44);
            t.x.sheet(0, 3, -256 + 2, -1);
            minds(t, 2, 1, 1);
            t.x.sheet(1, 3, 127, 1);
            minds(t, 99, 99, 99);
            t.x.sheet(1, 3, 32767, 1);
            minds(t, 99, 1, 1);
            t.x.sheet(1, 3, 65536 + 44, 65536);
            minds(t, 44, 44, 44);
            t.x.sheet(2, 3, 32767, 32769);
            minds(t, 99, 99, 99);
            t.x.sheet(2, 3, 65536 + 44, -65536);
            minds(t, 99, 44, 1);
            t.x.sheet(2, 3, 2, -1);
            minds(t, 2, 1, 1);
            // entries go round as ints
            t.x.sheet(2, 3, Integer.MAX_VALUE, 1);
            minds(t, 99, 1, 1);
            t.x.sheet(2, 3, 5, Integer.MIN_VALUE);
            minds(t, 5, 1, 5);
        });
        edge("or a missing one (3): those behind it have 1: the sum of all.", () -> {
            Probe t = Probe.county();
            is(t.x.sheet(2, 0, 5, 1), 3);
            minds(t, 1, 1, 1);
            is(t.x.sheet(2, 1, 5, 1), 7);
            minds(t, 5, 1, 1);
            is(t.x.sheet(2, 2, 5, 1), 12);
            minds(t, 5, 6, 1);
            is(t.x.sheet(2, 3, 5, 1), 18);
            // entries of no RIDER are none of the sum
            is(t.x.sheet(2, 6, 5, 1), 18);
            is(t.x.sheet(2, 6, 99, 0), 297);
            Probe six = new Probe("a", "1:0;1:0;1:0;1:0;1:0;1:0");
            is(six.x.sheet(2, 6, 94, 1), 94 + 95 + 96 + 97 + 98 + 99);
            is(six.x.sheet(2, 5, 99, 0), 5 * 99 + 1);
        });
    }

    private static void sheetRefused() {
        edge("-2: n below 0 (of kinds 0 .. 2; nothing changes);", () -> {
            Probe t = Probe.county();
            for (int kind = 0; kind < 3; kind++) {
                int k = kind;
                t.idle(() -> t.x.sheet(k, -1, 50, 1), -2);
                t.idle(() -> t.x.sheet(k, Integer.MIN_VALUE, 50, 1), -2);
            }
        });
        edge("-3: missing (all 1).", () -> {
            for (int n : new int[] {0, 3, 6, -1, Integer.MIN_VALUE}) {
                Probe t = Probe.county();
                is(t.x.sheet(3, n, 50, 1), -3);
                minds(t, 1, 1, 1);
            }
        });
        edge("NONE: another kind, n above 6 (these first).", () -> {
            Probe t = Probe.county();
            for (int kind : new int[] {-1, 4, Integer.MIN_VALUE, Integer.MAX_VALUE}) {
                t.idle(() -> t.x.sheet(kind, 3, 50, 1), -1);
                t.idle(() -> t.x.sheet(kind, -1, 50, 1), -1);
                t.idle(() -> t.x.sheet(kind, 7, 50, 1), -1);
            }
            for (int kind = 0; kind < 4; kind++) {
                int k = kind;
                t.idle(() -> t.x.sheet(k, 7, 50, 1), -1);
                t.idle(() -> t.x.sheet(k, Integer.MAX_VALUE, 50, 1), -1);
            }
        });
    }
}

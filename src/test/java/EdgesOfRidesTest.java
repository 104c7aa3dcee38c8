/** Edges of promises 11 to 19: rides, those who walk, inns, journeys, undone. */
public final class EdgesOfRidesTest extends Edges {
    public static void main(String[] args) {
        mount();
        dismount();
        ride();
        walk();
        lead();
        rest();
        deal();
        journeyActs();
        journeyDone();
        journeyFaults();
        undoLatest();
        undoWhat();
        undoForgets();
        finishEdges();
    }

    private static void mount() {
        promise(11);
        edge("Two RIDERS get on THE HORSE: 1 if their VIEWS are unlike where it is, else 0.", () -> {
            Probe t = Probe.county();
            is(t.x.mount(0, 2), 0);
            t.x.dismount();
            is(t.x.mount(0, 1), 1);
            t.x.dismount();
            // at b 0 and 2 are of different minds
            t.journey("l00;w20");
            is(t.x.mount(2, 0), 1);
            is(t.x.count(3), 2);
            is(t.x.count(4), 0);
            is(t.x.count(5), 0);
            Probe nowhere = new Probe("-", "9:0;9:1");
            is(nowhere.x.mount(0, 1), 0);
            Probe one = new Probe("a", "9:0;9:1");
            is(one.x.mount(0, 1), 0);
            // no PLACES, no WAYS
            Probe none = new Probe();
            none.riders("9:;9:");
            is(none.x.mount(0, 1), 0);
            none.due(none.x.ride(5), 0, 0, 1, -1);
            none.due(none.x.where(5), 0, 0, 1);
            is(none.x.dismount(), 0);
            // VIEWS by the MAPS that they go by
            Probe s = Probe.stubborn();
            is(s.x.mount(0, 2), 0);
            s.x.dismount();
            is(s.x.mount(0, 1), 1);
        });
        edge("-2: somebody is on it;", () -> {
            Probe t = Probe.county();
            t.x.walk(2, 0);
            t.x.mount(0, 1);
            t.idle(() -> t.x.mount(0, 1), -2);
            t.idle(() -> t.x.mount(1, 0), -2);
            // though one is not where it is
            t.idle(() -> t.x.mount(0, 2), -2);
        });
        edge("-3: one is not where it is;", () -> {
            Probe t = Probe.county();
            t.x.walk(2, 0);
            t.idle(() -> t.x.mount(0, 2), -3);
            t.idle(() -> t.x.mount(2, 0), -3);
            t.x.walk(1, 0);
            t.idle(() -> t.x.mount(1, 2), -3);
            t.x.lead(0, 0);
            is(t.x.mount(1, 2), 1);
        });
        edge("NONE: none such, like ones.", () -> {
            Probe t = Probe.county();
            for (int round = 0; round < 2; round++) {
                for (int r : new int[] {3, 6, -1, Integer.MAX_VALUE, Integer.MIN_VALUE}) {
                    t.idle(() -> t.x.mount(r, 0), -1);
                    t.idle(() -> t.x.mount(0, r), -1);
                    t.idle(() -> t.x.mount(r, r), -1);
                }
                t.idle(() -> t.x.mount(1, 1), -1);
                // as well if somebody is on it
                t.x.mount(0, 1);
            }
        });
    }

    private static void dismount() {
        promise(12);
        edge("Both get off THE HORSE: where.", () -> {
            Probe t = Probe.county();
            t.journey("m01;r1");
            is(t.x.dismount(), 2);
            is(t.x.count(3), -1);
            is(t.x.count(4), -1);
            is(t.x.count(5), 0);
            is(t.x.count(2), 2);
            is(t.x.rider(0, 2), 2);
            is(t.x.rider(1, 2), 2);
            is(t.x.rider(1, 1), 1);
            is(t.x.rider(0, 5) + t.x.rider(1, 5), 0);
            t.x.lead(0, 0);
            t.x.walk(1, 0);
            t.x.mount(1, 0);
            is(t.x.dismount(), 0);
        });
        edge("-2: nobody is on it.", () -> {
            Probe t = Probe.county();
            t.idle(t.x::dismount, -2);
            t.x.mount(0, 1);
            t.x.dismount();
            t.idle(t.x::dismount, -2);
        });
    }

    private static void ride() {
        promise(13);
        edge("At most n STEPS (0 .. 99), till it STOPS: how many;", () -> {
            Probe s = Probe.stubborn();
            s.x.mount(0, 1);
            is(s.x.ride(0), 0);
            is(s.x.count(5), 0);
            is(s.x.ride(1), 1);
            is(s.x.ride(98), 98);
            is(s.x.ride(99), 99);
            is(s.x.count(5), 198);
            Probe t = Probe.county();
            t.x.mount(1, 0);
            is(t.x.ride(99), 3);
            is(t.x.ride(99), 0);
        });
        edge("the ROW: where it is, 1 if it STOPPED ahead of the n-th,", () -> {
            Probe t = Probe.county();
            t.x.mount(1, 0);
            t.due(t.x.ride(0), 0, 0, 0, -1);
            t.due(t.x.ride(1), 1, 1, 0, -1);
            // just the 3rd of 3: it STOPS there, but not ahead of it
            t.due(t.x.ride(2), 2, 1, 0, 1);
            t.due(t.x.ride(0), 0, 1, 0, -1);
            t.due(t.x.ride(1), 0, 1, 1, -1);
            t.x.undo();
            t.due(t.x.ride(3), 2, 1, 1, 1);
            // by no WAYS
            Probe u = new Probe("bb;-", "9:00;9:11");
            u.x.mount(0, 1);
            u.due(u.x.ride(1), 1, 1, 0, -1);
            u.due(u.x.ride(1), 0, 1, 1, -1);
        });
        edge("who was CONVINCED in these (NONE; the latest).", () -> {
            Probe t = Probe.county();
            t.x.mount(1, 0);
            t.due(t.x.ride(2), 2, 0, 0, -1);
            t.due(t.x.ride(1), 1, 1, 0, 1);
            // earlier is not in these
            t.due(t.x.ride(1), 0, 1, 1, -1);
            Probe second = new Probe("aa", "2:0;2:1");
            second.x.mount(1, 0);
            second.due(second.x.ride(99), 2, 0, 1, 0);
            // CONVINCED ahead of the end of the ride: it goes on, for the other one is CONVINCED too
            Probe u = Probe.carriedOn();
            u.x.mount(0, 1);
            u.due(u.x.ride(9), 9, 0, 0, 1);
            u.due(u.x.ride(9), 9, 0, 0, -1);
        });
        edge("-2: nobody is on it; NONE: another n.", () -> {
            Probe t = Probe.county();
            t.idle(() -> t.x.ride(0), -2);
            t.idle(() -> t.x.ride(99), -2);
            for (int round = 0; round < 2; round++) {
                for (int n : new int[] {-1, 100, Integer.MAX_VALUE, Integer.MIN_VALUE}) {
                    t.idle(() -> t.x.ride(n), -1);
                }
                t.x.mount(1, 0);
            }
        });
    }

    private static void walk() {
        promise(14);
        edge("A RIDER that is not on THE HORSE walks by a WAY: where it is then.", () -> {
            Probe t = Probe.county();
            is(t.x.walk(0, 0), 1);
            is(t.x.rider(0, 2), 1);
            is(t.x.walk(0, 2), 1);
            is(t.x.walk(0, 1), 0);
            is(t.x.walk(0, 1), 2);
            is(t.x.count(2), 0);
            is(t.x.rider(1, 2), 0);
        });
        edge("-2: it is on it; -3: no such WAY; NONE: none such.", () -> {
            Probe t = Probe.county();
            t.idle(() -> t.x.walk(2, 2), -3);
            t.idle(() -> t.x.walk(2, 3), -3);
            t.idle(() -> t.x.walk(2, -1), -3);
            t.idle(() -> t.x.walk(2, Integer.MAX_VALUE), -3);
            t.x.mount(0, 1);
            t.idle(() -> t.x.walk(0, 0), -2);
            t.idle(() -> t.x.walk(1, 1), -2);
            t.idle(() -> t.x.walk(1, 9), -2);
            for (int r : new int[] {3, -1, Integer.MAX_VALUE, Integer.MIN_VALUE}) {
                t.idle(() -> t.x.walk(r, 0), -1);
                t.idle(() -> t.x.walk(r, 9), -1);
            }
            t.x.walk(2, 0);
            is(t.x.walk(2, 2), 1);
            Probe nowhere = new Probe("-", "9:0");
            nowhere.idle(() -> nowhere.x.walk(0, 0), -3);
            Probe none = new Probe();
            none.riders("5:");
            none.idle(() -> none.x.walk(0, 0), -3);
        });
    }

    private static void lead() {
        promise(15);
        edge("THE HORSE is led by a WAY with nobody on it, by a RIDER that is where it is, and goes with it: where they are then.", () -> {
            Probe t = Probe.county();
            is(t.x.lead(1, 0), 1);
            is(t.x.count(2), 1);
            is(t.x.rider(1, 2), 1);
            is(t.x.rider(0, 2), 0);
            is(t.x.lead(1, 2), 1);
            is(t.x.lead(1, 0), 2);
            is(t.x.count(3), -1);
        });
        edge("-2: somebody is on it; -3: no such WAY; -4: that RIDER is elsewhere (asked in this order); NONE: none such.", () -> {
            Probe t = Probe.county();
            t.x.walk(2, 0);
            t.idle(() -> t.x.lead(2, 0), -4);
            t.idle(() -> t.x.lead(2, 1), -4);
            // WAYS of where THE HORSE is, not of where the RIDER is
            t.idle(() -> t.x.lead(2, 2), -3);
            t.idle(() -> t.x.lead(2, -1), -3);
            t.idle(() -> t.x.lead(0, 2), -3);
            t.idle(() -> t.x.lead(0, Integer.MIN_VALUE), -3);
            t.x.mount(0, 1);
            t.idle(() -> t.x.lead(0, 0), -2);
            t.idle(() -> t.x.lead(2, 0), -2);
            t.idle(() -> t.x.lead(2, 9), -2);
            for (int r : new int[] {3, -1, Integer.MAX_VALUE, Integer.MIN_VALUE}) {
                t.idle(() -> t.x.lead(r, 0), -1);
                t.idle(() -> t.x.lead(r, 9), -1);
            }
            t.x.dismount();
            t.idle(() -> t.x.lead(3, 0), -1);
        });
    }

    private static void rest() {
        promise(16);
        edge("A RIDER at an INN, not on THE HORSE, rests: SPENT is 0, it is CONVINCED by nobody: how much it had SPENT.", () -> {
            Probe t = Probe.county();
            t.journey("m10;r9;d");
            is(t.x.rider(1, 3), 0);
            is(t.x.rest(1), 3);
            is(t.x.rider(1, 1), 0);
            is(t.x.rider(1, 3), -1);
            is(t.x.view(1, 0), 1);
            is(t.x.rest(1), 0);
            is(t.x.rest(0), 0);
            // THE HORSE may be elsewhere, others on it
            t.x.lead(0, 1);
            t.x.mount(0, 2);
            is(t.x.rest(1), 0);
        });
        edge("-2: it is on it, or not at an INN; NONE: none such.", () -> {
            Probe t = Probe.county();
            t.idle(() -> t.x.rest(0), -2);
            t.journey("m10;r9");
            t.idle(() -> t.x.rest(1), -2);
            t.idle(() -> t.x.rest(0), -2);
            t.idle(() -> t.x.rest(2), -2);
            for (int r : new int[] {3, -1, Integer.MAX_VALUE, Integer.MIN_VALUE}) {
                t.idle(() -> t.x.rest(r), -1);
            }
            Probe none = new Probe();
            none.riders("5:");
            none.idle(() -> none.x.rest(0), -2);
        });
    }

    private static void deal() {
        promise(17);
        edge("Two unlike RIDERS at one INN, none on THE HORSE, change MAPS: at how many PLACES their digits are unlike.", () -> {
            Probe t = Probe.county();
            t.journey("w00;w10;w20");
            is(t.x.deal(0, 1), 2);
            is(t.x.view(0, 0), 1);
            is(t.x.view(0, 1), 2);
            is(t.x.view(1, 0), 0);
            is(t.x.view(1, 1), 0);
            is(t.x.deal(1, 2), 2);
            is(t.x.deal(0, 1), 3);
            // digits, not VIEWS: none, one, all ten
            Probe u = new Probe("-!;-;-;-;-;-;-;-;-;-", "1:0000000000;1:0000000000;1:0000000002;1:1111111110");
            is(u.x.deal(0, 1), 0);
            is(u.x.deal(0, 2), 1);
            is(u.x.deal(0, 3), 10);
            is(u.x.count(9), 3);
            // who is CONVINCED has a MAP of its own still
            Probe s = Probe.stubborn();
            is(s.x.deal(1, 2), 0);
            is(s.x.deal(0, 1), 3);
            is(s.x.rider(1, 3), 0);
            is(s.x.view(1, 0), 1);
            is(s.x.view(0, 0), 1);
        });
        edge("-2: not so; NONE: none such, like ones.", () -> {
            Probe t = Probe.county();
            t.idle(() -> t.x.deal(0, 1), -2);
            t.x.walk(0, 0);
            t.idle(() -> t.x.deal(0, 1), -2);
            t.idle(() -> t.x.deal(1, 0), -2);
            t.journey("w10;l20");
            is(t.x.deal(1, 2), 3);
            t.x.mount(0, 1);
            t.idle(() -> t.x.deal(0, 1), -2);
            t.idle(() -> t.x.deal(0, 2), -2);
            t.idle(() -> t.x.deal(2, 0), -2);
            t.idle(() -> t.x.deal(2, 1), -2);
            for (int r : new int[] {3, -1, Integer.MAX_VALUE, Integer.MIN_VALUE}) {
                t.idle(() -> t.x.deal(r, 0), -1);
                t.idle(() -> t.x.deal(0, r), -1);
                t.idle(() -> t.x.deal(r, r), -1);
            }
            t.idle(() -> t.x.deal(2, 2), -1);
            t.idle(() -> t.x.deal(0, 0), -1);
            // others on THE HORSE do not matter
            Probe u = new Probe("-!", "1:0;1:1;1:2;1:0");
            u.x.mount(0, 1);
            is(u.x.deal(2, 3), 1);
            // two at two INNS
            Probe v = new Probe("b!;a!", "1:00;1:11");
            v.x.walk(0, 0);
            v.idle(() -> v.x.deal(0, 1), -2);
        });
    }

    private static void journeyActs() {
        promise(18);
        edge("THE TEXT tells A JOURNEY (an empty one: nothing), ACTS with ; between:", () -> {
            Probe t = Probe.county();
            t.due(t.journey(""), 0, 0, 0);
            is(t.x.count(9), 0);
            t.due(t.journey("w00"), 1, 0, 0);
            t.due(t.journey("w01;w01"), 2, 0, 0);
            is(t.x.rider(0, 2), 2);
            is(t.x.count(11), 0);
        });
        edge("m, a digit, a digit: mount(); d: dismount(); r and a number (1 or 2 digits): ride(); w, a digit, a digit: walk();"
            + " l, a digit, a digit: lead(); z and a digit: rest(); x, a digit, a digit: deal():", () -> {
            Probe t = Probe.county();
            Probe u = Probe.county();
            sameAs(t, u, "m10", u.x.mount(1, 0));
            sameAs(t, u, "r1", u.x.ride(1));
            sameAs(t, u, "r0", u.x.ride(0));
            sameAs(t, u, "r00", u.x.ride(0));
            sameAs(t, u, "r02", u.x.ride(2));
            sameAs(t, u, "r99", u.x.ride(99));
            sameAs(t, u, "d", u.x.dismount());
            sameAs(t, u, "z1", u.x.rest(1));
            sameAs(t, u, "z0", u.x.rest(0));
            sameAs(t, u, "l01", u.x.lead(0, 1));
            sameAs(t, u, "w20", u.x.walk(2, 0));
            sameAs(t, u, "x12", u.x.deal(1, 2));
            Probe s = Probe.stubborn();
            s.x.mount(0, 1);
            s.due(s.journey("r99;r10;r7"), 3, 0, 116);
            // any digits are told, but such RIDERS or WAYS there may be none
            for (String act : new String[] {"m99", "m09", "w99", "w29", "l99", "l09", "z9", "x99", "x09"}) {
                s.due(s.journey(act), 0, 1, 0);
            }
            fault(1, s.journey("m:0"));
            fault(2, s.journey("m0:"));
            fault(1, s.journey("z:"));
            fault(1, s.journey("r/"));
            fault(1, s.journey("w/0"));
        });
    }

    /** A JOURNEY of one ACT does to one what the call did to the other. */
    private static void sameAs(Probe t, Probe u, String act, int answer) {
        t.due(t.journey(act), 1, 0, act.charAt(0) == 'r' ? answer : 0);
        is(t.state(), u.state());
    }

    private static void journeyDone() {
        edge("they are done one by one, till one is not (it answers below 0): how many were done;", () -> {
            Probe t = Probe.county();
            // answers -1, -2, -3 and -4
            t.due(t.journey("w20;m33;w21"), 1, 1, 0);
            is(t.x.rider(2, 2), 1);
            t.due(t.journey("w21;d;w20"), 1, 1, 0);
            is(t.x.rider(2, 2), 0);
            t.due(t.journey("w20;m12;w21"), 1, 1, 0);
            is(t.x.rider(2, 2), 1);
            t.due(t.journey("w01;l00;w21"), 1, 1, 0);
            is(t.x.rider(2, 2), 1);
            t.due(t.journey("w00;m01;r1;w20;w22"), 4, 1, 1);
            is(t.x.rider(2, 2), 2);
            // an ACT that answers 0 is done
            t.due(t.journey("d;m01;r9;r9;d"), 5, 0, 0);
        });
        edge("the ROW: 1 if one was not, else 0; STEPS of all ride() together.", () -> {
            Probe t = Probe.county();
            t.due(t.journey("m10;r1;r1;r9;d"), 5, 0, 3);
            t.x.undo();
            t.due(t.journey("m10;r2;w00;r9"), 2, 1, 2);
            t.x.undo();
            t.due(t.journey("m10;r2;r0;d;m10;r9;m10"), 6, 1, 3);
            t.due(t.journey("m10"), 0, 1, 0);
            t.due(t.journey(""), 0, 0, 0);
        });
    }

    private static void journeyFaults() {
        edge("-1 - p: the sign at p can't stand there (as roads(); 60 signs); nothing is done then.", () -> {
            Probe t = Probe.county();
            Object[][] faults = {
                {"q", 0}, {";", 0}, {"m", 1}, {"m1", 2}, {"m1x", 2}, {"m100", 3}, {"d0", 1}, {"r", 1}, {"rx", 1}, {"r000", 3},
                {"w", 1}, {"w0", 2}, {"w000", 3}, {"l", 1}, {"l0", 2}, {"z", 1}, {"z00", 2}, {"x", 1}, {"x0", 2}, {"x0;", 2},
                {"d;", 2}, {"d;;d", 2}, {"w00;q", 4}, {"w00;m10;r", 9}, {"w00 ", 3}, {"W00", 0}, {"y00", 0}, {"n00", 0}};
            String before = t.whole();
            for (Object[] f : faults) {
                t.idle(() -> t.journey((String) f[0]), -1 - (int) f[1]);
            }
            // 60 signs could end, could go on, have a fault of their own
            String walks = "w00;w01;w00;w01;w00;w01;w00;w01;w00;w01;w00;w01;w00;w01;";
            is(walks.length(), 56);
            t.idle(() -> t.journey(walks + "d;z0;"), -61);
            t.idle(() -> t.journey(walks + "d;z0x"), -61);
            t.idle(() -> t.journey(walks + "d;r10"), -61);
            t.idle(() -> t.journey(walks + "w00;w01"), -61);
            t.idle(() -> t.journey(walks + "d;w00"), -61);
            t.idle(() -> t.journey(walks + "z00;d"), -1 - 58);
            t.idle(() -> t.journey(walks + "d;zx0"), -1 - 59);
            // its end there
            t.idle(() -> t.journey(walks + "w00;"), -61);
            t.idle(() -> t.journey(walks + "d;w0"), -61);
            is(t.whole(), before);
            t.due(t.journey(walks + "d;z0"), 14, 1, 0);
            is(t.x.rider(0, 2), 0);
        });
    }

    private static void undoLatest() {
        promise(19);
        edge("The latest mount(), dismount(), ride(), walk(), lead(), rest(), deal(), journey()", () -> {
            Probe t = Probe.county();
            t.undone(() -> t.x.walk(2, 0));
            t.undone(() -> t.x.lead(1, 1));
            t.undone(() -> t.x.lead(1, 0));
            t.undone(() -> t.x.mount(1, 0));
            t.undone(() -> t.x.ride(1));
            t.undone(() -> t.x.ride(9));
            t.undone(t.x::dismount);
            t.undone(() -> t.x.rest(1));
            t.undone(() -> t.x.deal(1, 2));
            t.undone(() -> t.journey("w00;m12;r9"));
            is(t.x.count(9), 10);
        });
        edge("(of 12 that are kept, the latest ones;", () -> {
            for (int acts = 11; acts <= 27; acts++) {
                Probe t = Probe.county();
                String[] states = new String[acts];
                for (int i = 0; i < acts; i++) {
                    states[i] = t.state();
                    t.x.walk(i % 3, (i / 2) % t.x.place(t.x.rider(i % 3, 2), 0));
                    // refused ones take no room
                    t.x.walk(0, 9);
                    t.x.mount(0, 0);
                }
                int most = Math.min(acts, 12);
                is(t.x.count(9), most);
                for (int left = most - 1; left >= 0; left--) {
                    is(t.x.undo(), left);
                    is(t.state(), states[acts - most + left]);
                }
                is(t.x.undo(), -1);
            }
        });
        edge("such as were done; ride() of 1 STEP and more, journey() of which one ACT was done, as one)", () -> {
            Probe t = Probe.county();
            int[] refused = {
                t.x.mount(0, 0), t.x.dismount(), t.x.ride(1), t.x.ride(100), t.x.walk(3, 0), t.x.walk(0, 9), t.x.lead(3, 0),
                t.x.lead(0, 9), t.x.rest(3), t.x.rest(0), t.x.deal(0, 0), t.x.deal(0, 1), t.journey("x"), t.journey("")};
            is(refused.length, 14);
            is(t.x.count(9), 0);
            t.due(t.journey("m00;w00"), 0, 1, 0);
            t.due(t.journey("d;w00"), 0, 1, 0);
            is(t.x.count(9), 0);
            t.x.mount(1, 0);
            t.x.ride(0);
            is(t.x.count(9), 1);
            t.x.ride(3);
            is(t.x.count(9), 2);
            t.x.ride(3);
            is(t.x.count(9), 2);
            // one ACT done, be it a ride() of no STEP
            t.due(t.journey("r0;m00"), 1, 1, 0);
            is(t.x.count(9), 3);
            t.due(t.journey("d;w00;w11;w00;m33"), 4, 1, 0);
            is(t.x.count(9), 4);
            is(t.x.undo(), 3);
            is(t.x.count(3), 1);
            is(t.x.rider(0, 2), 1);
            is(t.x.undo(), 2);
            is(t.x.undo(), 1);
            is(t.x.count(5), 0);
            is(t.x.undo(), 0);
            is(t.x.count(3), -1);
        });
    }

    private static void undoWhat() {
        edge("is undone (THE HORSE, who is on it, of RIDERS SPENT (MIND at most), PLACE, CONVINCED, MAPS, STEPS of this ride"
            + " are as ahead of it):", () -> {
            Probe t = Probe.county();
            t.x.mount(1, 0);
            t.x.ride(2);
            t.x.ride(1);
            is(t.x.rider(1, 3), 0);
            // MINDS are not undone
            t.x.sheet(2, 3, 1, 0);
            t.x.undo();
            is(t.x.rider(1, 0), 1);
            is(t.x.rider(1, 1), 1);
            is(t.x.rider(1, 3), -1);
            is(t.x.count(5), 2);
            is(t.x.count(2), 0);
            is(t.x.rider(0, 2), 0);
            t.x.undo();
            is(t.x.rider(1, 1), 0);
            is(t.x.count(5), 0);
            is(t.x.count(3), 1);
            // a MIND that grew gives back what was SPENT
            Probe u = Probe.county();
            u.journey("m10;r2");
            u.x.ride(1);
            u.x.sheet(2, 3, 9, 0);
            u.x.undo();
            is(u.x.rider(1, 0), 9);
            is(u.x.rider(1, 1), 2);
            // prints, THE RULE, THE TEXT and the ROW stay
            u.prints("ab");
            u.rule("1");
            u.text("zz");
            u.x.agree(0, 1);
            u.x.undo();
            is(u.x.count(8), 2);
            is(u.x.count(11), 2);
            is(u.x.count(10), 1);
        });
        edge("how many are left that can be. Refused: none.", () -> {
            Probe t = Probe.county();
            t.idle(t.x::undo, -1);
            t.x.walk(0, 0);
            t.x.walk(0, 0);
            is(t.x.undo(), 1);
            is(t.x.undo(), 0);
            t.idle(t.x::undo, -1);
            // what was undone can't be undone
            t.x.walk(0, 1);
            is(t.x.count(9), 1);
            is(t.x.undo(), 0);
            t.idle(t.x::undo, -1);
        });
    }

    private static void undoForgets() {
        edge("(roads(), riders() and again() forget them, if they are not refused; an empty riders() does not.)", () -> {
            Probe t = Probe.county();
            t.x.walk(0, 0);
            t.roads("x");
            t.roads("");
            is(t.x.count(9), 1);
            t.riders("");
            t.riders("1:1234");
            t.riders("0:0000");
            is(t.x.count(9), 1);
            t.x.again(0);
            t.x.again(-1);
            t.x.keep(0);
            is(t.x.count(9), 1);
            t.x.again(1);
            t.x.again(2);
            is(t.x.count(9), 1);
            t.x.again(0);
            is(t.x.count(9), 0);
            is(t.x.undo(), -1);
            t.x.walk(0, 1);
            t.riders("1:0000");
            is(t.x.count(9), 0);
            is(t.x.undo(), -1);
            t.x.walk(0, 0);
            t.roads("a");
            is(t.x.count(9), 0);
            is(t.x.undo(), -1);
            // other calls do not forget them
            Probe u = Probe.county();
            u.x.walk(0, 0);
            u.rule("1");
            u.prints("a");
            u.x.sheet(2, 3, 5, 1);
            u.x.county(1, 9);
            u.x.keep(1);
            is(u.x.count(9), 1);
        });
    }
}

import java.util.Arrays;
import java.util.function.IntSupplier;

/** An object of the class with texts told as texts, and the countries that tests share. */
final class Probe extends Checks {
    static final String ROADS = "bc;cab!;a;-";
    static final String RIDERS = "9:0000;3:1200;5:0110";

    final OfDifferentMinds x = new OfDifferentMinds();

    Probe() {
    }

    Probe(String roads, String riders) {
        text(roads).x.roads();
        text(riders).x.riders();
    }

    /** The country of the shared test: 0 and 1 go to c, 1 and 0 by b and a to b, where 1 is convinced. */
    static Probe county() {
        return new Probe(ROADS, RIDERS);
    }

    /**
     * 1 is convinced by 0 and goes by its map, 0 is convinced by 2: they disagree for ever, at PLACE
     * 0, from where WAY 0 leads back and WAY 1 to PLACE 2, which no WAY leaves.
     */
    static Probe stubborn() {
        Probe t = new Probe("ac!;a;-", "1:000;1:111;9:111");
        t.rule("0");
        t.journey("m01;r1;d;m20;r1;d");
        return t;
    }

    /**
     * 0 is convinced by 2, then all MINDS are 9, 2, 1: in a ride of 0 and 1, 1 is convinced by the 2nd
     * STEP and has the views of the map that 0 does not go by, so that they go on for ever.
     */
    static Probe carriedOn() {
        Probe t = new Probe("aa!", "1:0;2:0;9:1");
        t.journey("m20;r1;d");
        t.x.sheet(2, 3, 9, -7);
        return t;
    }

    /** A chain of INNS a, b, .. of which THE SECOND's 1 leads on, and every pair STOPS at the next one. */
    static Probe chain() {
        return new Probe("ab!;bc!;cd!;de!;ef!;fg!;gh!;hi;i;-", "1:0000000000;1:1111111110;1:0000000000");
    }

    /** Any text of up to 80 signs. */
    Probe text(String t) {
        x.end(0);
        for (int i = 0; i < t.length(); i += 4) {
            int v = 0;
            for (int j = i; j < i + 4; j++) {
                v = v << 8 | (j < t.length() ? t.charAt(j) : 0);
            }
            x.sign(v);
        }
        x.end(t.length());
        return this;
    }

    int roads(String t) {
        return text(t).x.roads();
    }

    int riders(String t) {
        return text(t).x.riders();
    }

    int rule(String t) {
        return text(t).x.rule();
    }

    int journey(String t) {
        return text(t).x.journey();
    }

    int prints(String t) {
        return text(t).x.prints();
    }

    int[] row() {
        int[] told = new int[x.count(10)];
        for (int i = 0; i < told.length; i++) {
            told[i] = x.row(i);
        }
        return told;
    }

    /** An answer, and the whole ROW behind it. */
    void due(int got, int want, int... row) {
        if (got != want || !Arrays.equals(row(), row)) {
            fail(got + " with the row " + Arrays.toString(row()), want + " with " + Arrays.toString(row));
        }
    }

    /** All that can be undone or kept, and the MINDS. */
    String state() {
        StringBuilder b = new StringBuilder();
        for (int what = 2; what <= 6; what++) {
            b.append(x.count(what)).append(' ');
        }
        for (int r = 0; r < x.count(1); r++) {
            for (int what = 0; what < 6; what++) {
                b.append(x.rider(r, what)).append(' ');
            }
            for (int p = 0; p < x.count(0); p++) {
                b.append(x.view(r, p)).append(' ');
            }
        }
        return b.toString();
    }

    /** All that is told of the object, but for the ROW. */
    String whole() {
        StringBuilder b = new StringBuilder(state());
        for (int what : new int[] {0, 1, 7, 8, 9, 11}) {
            b.append(x.count(what)).append(' ');
        }
        for (int p = 0; p < x.count(0); p++) {
            for (int what = 0; what < 6; what++) {
                b.append(x.place(p, what)).append(' ');
            }
        }
        return b.toString();
    }

    /** A call answers what is due and changes nothing, not even the ROW. */
    void idle(IntSupplier call, int want) {
        String before = whole() + Arrays.toString(row());
        is(call.getAsInt(), want);
        is(whole() + Arrays.toString(row()), before);
    }

    /** An ACT changes something, and undo() brings back just what was ahead of it. */
    void undone(IntSupplier act) {
        String before = state();
        act.getAsInt();
        String behind = state();
        if (before.equals(behind)) {
            fail(behind, "something else");
        }
        x.undo();
        is(state(), before);
        act.getAsInt();
        is(state(), behind);
    }
}

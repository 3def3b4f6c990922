/** Machines that the tests begin with. */
final class Build {
    private Build() { }

    /** Four legs whose hips are so far out in both ways, lying: 0 and 1 at the lesser y, 2 and 3 at the greater. */
    static Gaitwright lying(int out, int reach) {
        Gaitwright g = new Gaitwright();
        g.leg(-out, -out, reach);
        g.leg(out, -out, reach);
        g.leg(out, out, reach);
        g.leg(-out, out, reach);
        return g;
    }

    /** On which side of the body the hip of leg 0, 1, 2 or 3 of those is in x: -1 or 1. */
    static int sideX(int leg) {
        return leg == 0 || leg == 3 ? -1 : 1;
    }

    static int sideY(int leg) {
        return leg < 2 ? -1 : 1;
    }

    /** The same, risen: with 2 out its feet are at (8, 8), (12, 8), (12, 12) and (8, 12). */
    static Gaitwright standing(int out, int reach) {
        Gaitwright g = lying(out, reach);
        g.rise();
        return g;
    }

    /** Legs at these hips, told as x, y, x, y and so on, all of the same reach, lying. */
    static Gaitwright withHips(int reach, int... hips) {
        Gaitwright g = new Gaitwright();
        for (int i = 0; i + 1 < hips.length; i += 2) {
            g.leg(hips[i], hips[i + 1], reach);
        }
        return g;
    }

    /**
     * Four legs 2 out and a fifth, 4, at the body, reach 4: with 4 up it stands on the four corners, and
     * the whole ground round the body is free for foot 4.
     */
    static Gaitwright withFreeFoot() {
        Gaitwright g = withHips(4, -2, -2, 2, -2, 2, 2, -2, 2, 0, 0);
        g.rise();
        g.lift(4);
        return g;
    }

    /**
     * Four legs 5 out, reach 6, and a fifth, 4, at the body, of this reach and up: no reach of that one comes
     * to the feet of the others, which are at (5, 5), (15, 5), (15, 15) and (5, 15).
     */
    static Gaitwright wide(int reach) {
        Gaitwright g = lying(5, 6);
        g.leg(0, 0, reach);
        g.rise();
        g.lift(4);
        return g;
    }

    /** The same, with foot 4 down at (10, 10), and just so much energy left, 0 to 973. */
    static Gaitwright poor(int left) {
        Gaitwright g = wide(6);
        g.place(4, 10, 10);
        if ((g.machine(3) - left) % 2 != 0) {
            g.lift(4);
            g.place(4, 11, 10);
            g.lift(4);
            g.place(4, 10, 10);
        }
        g.phase(4, 0, 0, 0, 0);
        while (g.machine(3) > left) {
            g.walk(Math.min(20, (g.machine(3) - left) / 2));
        }
        g.halt();
        return g;
    }

    /** The same, with foot 4 up. */
    static Gaitwright poorAndUp(int left) {
        Gaitwright g = poor(left + 1);
        g.lift(4);
        return g;
    }

    /**
     * A machine with four feet across its way, and one behind, that walks one point a gait of five phases. It
     * can do 10 gaits to the lesser x or y, and 9 to the greater: then its body is on the last point.
     */
    static Gaitwright walker(int wayX, int wayY) {
        int acrossX = wayY;
        int acrossY = wayX;
        Gaitwright g = withHips(3, -2 * acrossX, -2 * acrossY, 2 * acrossX, 2 * acrossY,
                -acrossX, -acrossY, acrossX, acrossY, -2 * wayX, -2 * wayY);
        g.rise();
        for (int leg = 0; leg < 5; leg++) {
            g.phase(leg, wayX, wayY, leg == 1 ? wayX : 0, leg == 1 ? wayY : 0);
        }
        return g;
    }

    /** Whether the machine's answers about itself are the same as those told before: see sketch. */
    static String sketch(Gaitwright g) {
        StringBuilder s = new StringBuilder();
        for (int what = 0; what <= 11; what++) {
            s.append(g.machine(what)).append(' ');
        }
        for (int leg = 0; leg < g.machine(10); leg++) {
            s.append(g.foot(leg, 1)).append(',').append(g.foot(leg, 2)).append(' ');
        }
        return s.append(g.margin()).toString();
    }
}

/** Machines that the tests begin with. */
final class Build {
    private Build() { }

    /** Four legs whose hips are so far out in both ways, lying: 0 and 1 at the lesser y, 2 and 3 at the greater. */
    static Gaitwright lying(int out, int reach) {
        Gaitwright g = new Gaitwright();
        g.leg(-out, -out, reach);
        g.leg(out, -out, reach);
        g.leg(out, out, reach);
        g.leg(-out, out, reach);
        return g;
    }

    /** The same, risen: with 2 out its feet are at (8, 8), (12, 8), (12, 12) and (8, 12). */
    static Gaitwright standing(int out, int reach) {
        Gaitwright g = lying(out, reach);
        g.rise();
        return g;
    }

    /** Legs at these hips, told as x, y, x, y and so on, all of the same reach, lying. */
    static Gaitwright withHips(int reach, int... hips) {
        Gaitwright g = new Gaitwright();
        for (int i = 0; i + 1 < hips.length; i += 2) {
            g.leg(hips[i], hips[i + 1], reach);
        }
        return g;
    }

    /**
     * Four legs 2 out and a fifth, 4, at the body, reach 4: with 4 up it stands on the four corners, and
     * the whole ground round the body is free for foot 4.
     */
    static Gaitwright withFreeFoot() {
        Gaitwright g = withHips(4, -2, -2, 2, -2, 2, 2, -2, 2, 0, 0);
        g.rise();
        g.lift(4);
        return g;
    }

    /** Whether the machine's answers about itself are the same as those told before: see sketch. */
    static String sketch(Gaitwright g) {
        StringBuilder s = new StringBuilder();
        for (int what = 0; what <= 11; what++) {
            s.append(g.machine(what)).append(' ');
        }
        for (int leg = 0; leg < g.machine(10); leg++) {
            s.append(g.foot(leg, 1)).append(',').append(g.foot(leg, 2)).append(' ');
        }
        return s.append(g.margin()).toString();
    }
}

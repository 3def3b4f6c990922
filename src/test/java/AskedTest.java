/** Promises 14 to 25: what is asked. */
public final class AskedTest {
    public static void main(String[] args) {
        machine();
        foot();
        point();
        stable();
        stableByFractions();
        margin();
        corner();
        foothold();
        footholdByTheMap();
        wouldLift();
        fewest();
        fewestSteps();
        fewestByTheMap();
        fall();
        fallsKept();
        Check.end();
    }

    private static void machine() {
        Check.part("promise 14");
        Gaitwright g = Build.withFreeFoot();
        g.load(5, 1, 1);
        g.shift(1, 0);
        g.shift(0, -1);
        g.chart(12, 8, 4);
        g.chart(8, 12, 6);
        g.phase(4, 0, 0, 0, 0);
        int[] due = {11, 9, 1, 975, 5, 6, 4, 4, 0, 0, 5, 0};
        for (int what = 0; what < due.length; what++) {
            Check.due("machine(" + what + ")", due[what], g.machine(what));
        }
        for (int what : new int[] {-1, 12, Integer.MIN_VALUE, Integer.MAX_VALUE}) {
            Check.isArgument("machine(" + what + ")", () -> g.machine(what));
        }
        Gaitwright h = Build.lying(2, 3);
        h.ground(8, 8, 0, 2, 9);
        h.ground(12, 8, 0, 2, 9);
        h.ground(12, 12, 0, 2, 9);
        h.chart(8, 12, 1);
        Check.due("three sink", 0, h.rise());
        int[] fallen = {10, 10, 0, 980, 0, 0, 0, 0, 3, 1, 4, -1};
        for (int what = 0; what < fallen.length; what++) {
            Check.due("fallen, machine(" + what + ")", fallen[what], h.machine(what));
        }
    }

    private static void foot() {
        Check.part("promise 15");
        Gaitwright g = Build.withFreeFoot();
        int[][] due = {{1, 8, 8}, {1, 12, 8}, {1, 12, 12}, {1, 8, 12}, {0, -1, -1}};
        for (int leg = 0; leg < due.length; leg++) {
            for (int what = 0; what < 3; what++) {
                Check.due("foot(" + leg + ", " + what + ")", due[leg][what], g.foot(leg, what));
            }
        }
        Check.isArgument("what 3", () -> g.foot(0, 3));
        Check.isArgument("what -1", () -> g.foot(4, -1));
        Check.isIndex("leg 5", () -> g.foot(5, 0));
        Check.isIndex("leg 5, what 3", () -> g.foot(5, 3));
        Check.isIndex("leg -1", () -> g.foot(-1, 0));
    }

    private static void point() {
        Check.part("promise 16");
        Gaitwright g = new Gaitwright();
        g.ground(19, 0, 1, 2, 3);
        g.chart(19, 0, 4);
        for (int what = 0; what < 4; what++) {
            Check.due("what " + what, what + 1, g.point(19, 0, what));
        }
        Check.due("another", 99, g.point(0, 19, 1));
        int[][] wrong = {{-1, 0, 0}, {20, 0, 0}, {0, -1, 0}, {0, 20, 0}, {0, 0, -1}, {0, 0, 4}, {20, 20, 4}};
        for (int[] w : wrong) {
            Check.isArgument("wrong " + java.util.Arrays.toString(w), () -> g.point(w[0], w[1], w[2]));
        }
    }

    private static void bothStable(String what, boolean due, Gaitwright g) {
        Check.due(what, due, g.isStable());
        Check.due(what + ", anew", due, g.isStableAnew());
    }

    private static void stable() {
        Check.part("promises 17 and 18");
        Gaitwright one = Build.withHips(2, 0, 0);
        bothStable("lying", false, one);
        one.rise();
        bothStable("on one point", true, one);
        Gaitwright two = Build.withHips(4, -3, -1, 3, 1);
        two.rise();
        bothStable("on a line", true, two);
        Gaitwright four = Build.standing(2, 4);
        bothStable("within four", true, four);
        four.lift(0);
        bothStable("on the edge of three", true, four);
        four.shift(1, 1);
        bothStable("within three", true, four);
        four.shift(1, 1);
        bothStable("on a corner", true, four);
        Gaitwright row = Build.withHips(4, -2, 0, -1, 0, 1, 0, 4, 0);
        row.rise();
        bothStable("on a row of four", true, row);
    }

    /** Loads that put the moment just within the hull, on its edge, or just outside, which is refused. */
    private static void stableByFractions() {
        Check.part("promise 17, fractions");
        Gaitwright line = Build.withHips(3, -2, 0, 2, 0);
        line.rise();
        Check.isState("beside the line", () -> line.load(1, 0, 1));
        Check.isState("beside the line", () -> line.load(1, 3, -1));
        Check.due("along the line", 0, line.load(20, 3, 0));
        bothStable("to its end", true, line);
        Check.isState("beyond its end", () -> line.load(20, 4, 0));
        Check.isState("beyond its other end", () -> line.load(20, -4, 0));
        // The edge from (12, 9) to (9, 12): a load of 1 at 5, 5 is just inside, one of 2 is not.
        Gaitwright three = Build.withHips(3, -1, 2, 2, -1, -2, -2);
        three.rise();
        Check.due("5 of 11 in both", 0, three.load(1, 5, 5));
        bothStable("just inside", true, three);
        Check.isState("10 of 12 in both", () -> three.load(2, 5, 5));
        Check.due("10 of 20 in both", 0, three.load(10, 1, 1));
        bothStable("on the edge", true, three);
        Check.due("margin", 0, three.margin());
        Check.isState("11 of 21 in both", () -> three.load(11, 1, 1));
    }

    private static void margin() {
        Check.part("promise 19");
        Gaitwright g = Build.lying(2, 3);
        int none = Float.floatToIntBits(-1.0f);
        Check.due("lying", none, g.margin());
        g.rise();
        Check.due("in the middle", Float.floatToIntBits(4.0f), g.margin());
        g.load(10, 1, 0);
        Check.due("half a point aside", Float.floatToIntBits(2.25f), g.margin());
        g.load(1, 1, 0);
        Check.due("an eleventh aside", Float.floatToIntBits(7056f / 1936f), g.margin());
        g.load(20, -3, 3);
        Check.due("at the corner", 0, g.margin());
        g.load(0, 0, 0);
        g.lift(0);
        Check.due("on the edge", 0, g.margin());
        g.shift(1, 0);
        Check.due("half of the edge aslant", Float.floatToIntBits(0.5f), g.margin());
        g.load(1, -1, 0);
        Check.due("rounded once", Float.floatToIntBits((float) (40L * 40L) / (float) (32L * 121L)), g.margin());
        Gaitwright line = Build.withHips(3, -2, 0, 2, 0);
        line.rise();
        Check.due("a line", 0, line.margin());
        Gaitwright wide = Build.withHips(6, -5, -5, 5, -4, 4, 5, -5, 3);
        wide.rise();
        wide.load(19, 1, -1);
        // The edge from (14, 15) to (5, 13) and the moment (309, 271) by 29: a square beyond 24 bits.
        long right = (10 * (271 - 29 * 5) - 1 * (309 - 29 * 5));
        long up = (-1 * (271 - 29 * 6) - 9 * (309 - 29 * 15));
        long left = (-9 * (271 - 29 * 15) + 2 * (309 - 29 * 14));
        long down = (8 * (309 - 29 * 5));
        float least = (float) (right * right) / (float) (101L * 841L);
        least = Math.min(least, (float) (up * up) / (float) (82L * 841L));
        least = Math.min(least, (float) (left * left) / (float) (85L * 841L));
        least = Math.min(least, (float) (down * down) / (float) (64L * 841L));
        Check.due("wide", Float.floatToIntBits(least), wide.margin());
    }

    private static void corners(String what, Gaitwright g, int... due) {
        for (int i = 0; i < due.length; i++) {
            Check.due(what + ", corner " + i, due[i], g.corner(i));
        }
        Check.due(what + ", no more", -1, g.corner(due.length));
        Check.due(what + ", and none beyond", -1, g.corner(Integer.MAX_VALUE));
    }

    private static void corner() {
        Check.part("promise 20");
        Gaitwright four = Build.lying(2, 3);
        corners("lying", four);
        four.rise();
        corners("four", four, 168, 172, 252, 248);
        four.lift(0);
        corners("without foot 0", four, 172, 252, 248);
        Check.isArgument("corner -1", () -> four.corner(-1));
        Check.isArgument("corner least", () -> four.corner(Integer.MIN_VALUE));
        Gaitwright one = Build.withHips(3, 0, 0);
        one.rise();
        corners("one", one, 210);
        Gaitwright line = Build.withHips(3, 1, 1, 0, 0, -2, -2, 2, 2);
        line.rise();
        corners("a line", line, 168, 252);
        Gaitwright flat = Build.withHips(3, 1, 0, -3, 0, 0, 0);
        flat.rise();
        corners("a line along x", flat, 207, 211);
        Gaitwright edges = Build.withHips(3, 0, -2, 2, -2, -2, -2, 0, 2, 1, 0, 0, 0);
        edges.rise();
        corners("points within edges, and one inside", edges, 168, 172, 250);
        Gaitwright six = Build.withHips(3, 1, 2, -1, 2, -2, 0, 2, 0, -1, -2, 1, -2);
        six.rise();
        corners("six", six, 169, 171, 212, 251, 249, 208);
    }

    private static void foothold() {
        Check.part("promise 21");
        Gaitwright g = Build.withFreeFoot();
        Check.due("at the hip", 210, g.foothold(4));
        Check.due("where it is", 168, g.foothold(0));
        g.place(4, 9, 8);
        Check.due("as if it was up", 210, g.foothold(4));
        g.shift(1, 0);
        Check.due("where another is", 149, g.foothold(0));
        Check.due("at its hip", 173, g.foothold(1));
        Check.isIndex("no such leg", () -> g.foothold(5));
        Check.isIndex("no such leg", () -> g.foothold(-1));
        Gaitwright lying = Build.withHips(1, 3, -4);
        Check.due("lying", 133, lying.foothold(0));
        lying.chart(13, 6, 3);
        Check.due("by the least y then", 113, lying.foothold(0));
        lying.chart(13, 5, 3);
        Check.due("by the least x then", 132, lying.foothold(0));
        lying.chart(12, 6, 3);
        Check.due("then", 134, lying.foothold(0));
        lying.chart(14, 6, 3);
        Check.due("then", 153, lying.foothold(0));
        lying.chart(13, 7, 3);
        Check.due("none is left", -1, lying.foothold(0));
        lying.chart(13, 7, 2);
        lying.chart(12, 6, 1);
        Check.due("one step of height is worth 10", 132, lying.foothold(0));
    }

    private static void footholdByTheMap() {
        Check.part("promise 21, the map");
        Gaitwright g = Build.withFreeFoot();
        g.ground(10, 10, 9, 0, 0);
        Check.due("the ground is no matter", 210, g.foothold(4));
        g.chart(10, 10, 1);
        Check.due("10 against 1", 190, g.foothold(4));
        g.chart(8, 8, 2);
        Check.due("the level is 2: 10 against 20", 210, g.foothold(4));
        g.chart(10, 10, 0);
        g.chart(10, 14, 2);
        Check.due("far, but level", 290, g.foothold(4));
        g.chart(8, 8, 3);
        Check.due("3 lower is none", 290, g.foothold(4));
        // Of leg 0, whose point is mapped 3, it is one beside that with the least y.
        Check.due("without its own foot the level is 0", 148, g.foothold(0));
        Gaitwright two = Build.withHips(1, 0, 0);
        two.chart(10, 10, 3);
        two.chart(10, 9, 2);
        two.chart(9, 10, 3);
        two.chart(11, 10, 3);
        two.chart(10, 11, 3);
        Check.due("2 higher than the level is one", 190, two.foothold(0));
        two.chart(10, 9, 3);
        Check.due("3 higher is none", -1, two.foothold(0));
        Gaitwright far = Build.withHips(6, 5, 5, -5, -5);
        Check.due("hip", 315, far.foothold(0));
        Check.due("hip", 105, far.foothold(1));
    }

    private static void wouldLift() {
        Check.part("promise 22");
        Gaitwright g = Build.lying(2, 3);
        Check.due("it lies", -1, g.wouldLift(0));
        g.ground(12, 12, 1, 3, 9);
        g.chart(12, 12, 1);
        g.rise();
        String before = Build.sketch(g);
        Check.due("another sinks", 1, g.wouldLift(0));
        Check.due("none sinks, and it is the one that would", 0, g.wouldLift(2));
        Check.isIndex("no such leg", () -> g.wouldLift(4));
        Check.isIndex("no such leg", () -> g.wouldLift(-1));
        Check.due("changes nothing", before, Build.sketch(g));
        Check.due("nor the ground", 1, g.point(12, 12, 0));
        Check.due("nor the map", 1, g.point(12, 12, 3));
        Check.due("so it does", 2, g.lift(0));
        Check.due("its foot is up", -1, g.wouldLift(0));
        Check.due("not stable without it", -1, g.wouldLift(1));
        Gaitwright h = Build.lying(2, 3);
        h.ground(12, 12, 0, 3, 9);
        h.ground(12, 8, 0, 4, 9);
        h.rise();
        Check.due("by turns two sink", 2, h.wouldLift(0));
        h.shift(-1, 1);
        Check.due("from another place as well", 2, h.wouldLift(0));
        h.shift(1, -1);
        Check.due("it stands all the same", 1, h.machine(2));
        Check.due("none is a fall yet", 0, h.machine(9));
        Check.due("none is broken yet", 0, h.machine(8));
    }

    private static boolean isAnewFirst = false;

    /** Asks both in turns the one and the other first, so that neither can rest on the other. */
    private static void bothFewest(String what, int due, Gaitwright g, int x, int y) {
        isAnewFirst = !isAnewFirst;
        if (isAnewFirst) {
            Check.due(what + ", anew", due, g.fewestAnew(x, y));
        }
        Check.due(what, due, g.fewest(x, y));
        if (!isAnewFirst) {
            Check.due(what + ", anew", due, g.fewestAnew(x, y));
        }
    }

    private static void fewest() {
        Check.part("promises 23 and 24");
        Gaitwright g = Build.lying(2, 4);
        bothFewest("lying, where it is", -1, g, 10, 10);
        g.rise();
        String before = Build.sketch(g);
        bothFewest("where it is", 0, g, 10, 10);
        bothFewest("beside", 1, g, 11, 10);
        bothFewest("beside, the other way", 1, g, 10, 9);
        bothFewest("aslant takes two", 2, g, 9, 11);
        bothFewest("two", 2, g, 10, 12);
        bothFewest("three", 3, g, 8, 11);
        bothFewest("four", -1, g, 12, 12);
        bothFewest("out of the hull", -1, g, 13, 10);
        bothFewest("far", -1, g, 0, 19);
        for (int[] p : new int[][] {{-1, 10}, {20, 10}, {10, -1}, {10, 20}}) {
            Check.isArgument("no such point", () -> g.fewest(p[0], p[1]));
            Check.isArgument("no such point, anew", () -> g.fewestAnew(p[0], p[1]));
            Check.isArgument("lying", () -> new Gaitwright().fewest(p[0], p[1]));
            Check.isArgument("lying, anew", () -> new Gaitwright().fewestAnew(p[0], p[1]));
        }
        Check.due("changes nothing", before, Build.sketch(g));
        Gaitwright edge = Build.withHips(6, -2, 0, 2, 0, 0, 2);
        edge.rise();
        bothFewest("unstable", -1, edge, 10, 9);
        // (12, 10) to (10, 12) is an edge: from its corner the next place on it is two shifts, by the inside.
        edge.shift(1, 0);
        edge.shift(1, 0);
        bothFewest("by the inside", 2, edge, 11, 11);
    }

    private static void fewestSteps() {
        Check.part("promises 23 and 24, steps");
        Gaitwright g = shortLeg();
        bothFewest("two out of reach, but for a step", 3, g, 12, 10);
        bothFewest("not to where it is not stable without that foot", -1, g, 8, 10);
        g.lift(0);
        bothFewest("without that foot", 2, g, 12, 10);
        // A step first: the free foot of the line widens the hull.
        Gaitwright line = Build.withHips(3, -2, 0, 2, 0, 0, -1);
        line.rise();
        bothFewest("within the three", 1, line, 10, 9);
        line.lift(2);
        bothFewest("a step, and a shift", 2, line, 10, 9);
        bothFewest("nothing on the other side", -1, line, 10, 11);
        Gaitwright two = Build.withHips(2, -1, 0, 1, 0);
        two.rise();
        bothFewest("no foot can be lifted", -1, two, 12, 10);
    }

    /** Four legs 2 out; foot 0 has reach 1, the others 5. */
    private static Gaitwright shortLeg() {
        Gaitwright g = new Gaitwright();
        g.leg(-2, -2, 1);
        g.leg(2, -2, 5);
        g.leg(2, 2, 5);
        g.leg(-2, 2, 5);
        g.rise();
        return g;
    }

    private static void fewestByTheMap() {
        Check.part("promises 23 and 24, the map");
        Gaitwright g = shortLeg();
        for (int x = 0; x < 20; x++) {
            g.ground(x, 7, 9, 0, 0);
        }
        g.ground(9, 8, 9, 0, 0);
        bothFewest("nothing is broken", 3, g, 12, 10);
        g.chart(9, 8, 3);
        bothFewest("the foothold is at (9, 7), too far then", -1, g, 12, 10);
        g.chart(9, 8, 1);
        bothFewest("10 is too much as well", -1, g, 12, 10);
        g.chart(9, 8, 0);
        bothFewest("as it was", 3, g, 12, 10);
        g.phase(1, 0, 0, 0, 0);
        for (int i = 0; i < 30 && g.machine(3) > 0; i++) {
            g.walk(20);
        }
        Check.due("no energy", 0, g.machine(3));
        bothFewest("none is needed", 3, g, 12, 10);
    }

    /** Four feet, of which some sink at a load of 10 at the body: those told, a bit each. */
    private static Gaitwright fallen(int soft, int weight, int x, int y) {
        Gaitwright g = Build.lying(2, 3);
        int[][] feet = {{8, 8}, {12, 8}, {12, 12}, {8, 12}};
        for (int leg = 0; leg < 4; leg++) {
            if ((soft >> leg & 1) != 0) {
                g.ground(feet[leg][0], feet[leg][1], 0, 4, 9);
            }
        }
        g.rise();
        g.load(weight, x, y);
        return g;
    }

    private static void fall() {
        Check.part("promise 25");
        int[][] due = {{0b1110, 8}, {0b1101, 2}, {0b1011, 0}, {0b0111, 6}, {0b1100, 5}, {0b1001, 1},
            {0b0011, 3}, {0b0110, 7}, {0b1111, 4}};
        for (int[] d : due) {
            Gaitwright g = fallen(d[0], 10, 0, 0);
            Check.due("fell", 1, g.machine(9));
            Check.due("direction of " + d[0], d[1], g.fall(0, 0));
            Check.due("sank", 2, g.fall(0, 1));
            boolean isFirst = (d[0] & 1) != 0;
            boolean isSecond = (d[0] & 2) != 0;
            Check.due("where first", isFirst ? 8 : 12, g.fall(0, 2));
            Check.due("where first", isFirst || isSecond ? 8 : 12, g.fall(0, 3));
        }
        Gaitwright none = fallen(0b0101, 10, 0, 0);
        Check.due("no fall on the line", 0, none.machine(9));
        // The moment (10 and 11 of 21, 10) against the middle (10, 8): exactly, x is more.
        Check.due("exactly", 8, fallen(0b1100, 11, 1, 0).fall(0, 0));
        Check.due("exactly, the other way", 2, fallen(0b1100, 11, -1, 0).fall(0, 0));
        // Three feet are left, whose middle is a third beside the moment in x: 10 and a third, 9 and two thirds.
        for (int side : new int[] {1, -1}) {
            Gaitwright three = Build.withHips(3, 0, -2, 0, -1, side, -2, 0, 3);
            three.ground(10, 13, 0, 2, 9);
            three.rise();
            Check.due("exactly, of three, " + side, side > 0 ? 2 : 8, three.fall(0, 0));
        }
        Gaitwright g = fallen(0b1110, 10, 0, 0);
        Check.isIndex("fall 1", () -> g.fall(1, 0));
        Check.isIndex("fall -1", () -> g.fall(-1, 0));
        Check.isIndex("fall 1, what 4", () -> g.fall(1, 4));
        Check.isArgument("what 4", () -> g.fall(0, 4));
        Check.isArgument("what -1", () -> g.fall(0, -1));
        // The first that was broken since it got up counts, not the one that made it fall.
        Gaitwright first = Build.lying(2, 3);
        first.ground(12, 8, 2, 99, 9);
        first.ground(12, 12, 0, 5, 9);
        first.rise();
        Check.due("it stumbled, and stands", 1, first.machine(2));
        first.load(20, 0, 0);
        Check.due("it fell", 1, first.machine(9));
        Check.due("it stumbled first", 1, first.fall(0, 1));
        Check.due("at x", 12, first.fall(0, 2));
        Check.due("at y", 8, first.fall(0, 3));
        first.ground(12, 12, 0, 2, 9);
        first.ground(8, 12, 0, 2, 9);
        first.load(0, 0, 0);
        Check.due("falls again", 0, first.rise());
        Check.due("forgotten by then", 2, first.fall(1, 1));
        Check.due("at y", 12, first.fall(1, 3));
        Check.due("to lesser or greater y", 5, first.fall(1, 0));
    }

    private static void fallsKept() {
        Check.part("promise 25, the first 40");
        Gaitwright g = Build.withHips(2, 0, 0);
        g.ground(10, 10, 0, 9, 9);
        for (int i = 1; i <= 39; i++) {
            g.rise();
        }
        Check.isIndex("39", () -> g.fall(39, 0));
        g.ground(10, 10, 0, 99, 9);
        g.chart(10, 10, 5);
        g.rise();
        Check.due("the last that is kept", 1, g.fall(39, 1));
        g.ground(10, 10, 0, 9, 9);
        for (int i = 41; i <= 45; i++) {
            g.rise();
        }
        Check.due("all are counted", 45, g.machine(9));
        Check.isIndex("40", () -> g.fall(40, 0));
        Check.isIndex("44", () -> g.fall(44, 0));
        Check.due("the last that is kept", 1, g.fall(39, 1));
        Check.due("the first", 2, g.fall(0, 1));
    }
}

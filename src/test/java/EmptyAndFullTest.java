/**
 * Nothing there yet (no legs, no phases, no falls, no feet that are down), and full (6 legs, 8 phases, 40
 * falls and more, an energy of 1000).
 */
public final class EmptyAndFullTest {
    private static final int NONE = -1;

    public static void main(String[] args) {
        newGround();
        noLegs();
        noPhases();
        noFalls();
        noFeetDown();
        sixLegs();
        sixLegsInUse();
        sixLegsPlan();
        eightPhases();
        eightPhasesTwice();
        fortyFalls();
        fullEnergy();
        Check.end();
    }

    private static void newGround() {
        Check.part("all points at first");
        int[] due = {0, 99, 9, 0};
        for (int what = 0; what < due.length; what++) {
            Gaitwright g = new Gaitwright();
            for (int i = 0; i < 400; i++) {
                Check.due("point " + i + ", " + what, due[what], g.point(i % 20, i / 20, what));
            }
        }
    }

    private static void noLegs() {
        Check.part("no legs");
        Gaitwright g = new Gaitwright();
        Check.due("how many", 0, g.machine(10));
        for (int leg : new int[] {0, 1, 5, 6, NONE}) {
            Check.isIndex("phase", () -> g.phase(leg, 0, 0, 0, 0));
            Check.isIndex("lift", () -> g.lift(leg));
            Check.isIndex("place", () -> g.place(leg, 10, 10));
            Check.isIndex("foot", () -> g.foot(leg, 0));
            Check.isIndex("foothold", () -> g.foothold(leg));
            Check.isIndex("wouldLift", () -> g.wouldLift(leg));
        }
        Picture.unchanged("rise", IllegalStateException.class, Gaitwright::new, Gaitwright::rise);
        Check.isState("shift", () -> g.shift(1, 0));
        Check.due("a load is no matter", 0, g.load(20, 5, 5));
        Check.isState("rise with it", g::rise);
        Check.due("the number of the first", 0, g.leg(0, 0, 1));
        Check.due("its foot is up", 0, g.foot(0, 0));
        Check.due("its x", NONE, g.foot(0, 1));
        Check.due("its y", NONE, g.foot(0, 2));
        Check.isIndex("there is no second", () -> g.foot(1, 0));
        Check.isIndex("nor for a phase", () -> g.phase(1, 0, 0, 0, 0));
    }

    private static void noPhases() {
        Check.part("no phases");
        Scene scene = () -> Build.wide(6);
        Gaitwright g = scene.make();
        Check.due("none is next", NONE, g.machine(11));
        Check.due("halt", 0, g.halt());
        Picture.unchanged("walk", IllegalStateException.class, scene, m -> m.walk(1));
        Picture.unchanged("walk, lying", IllegalStateException.class, Gaitwright::new, m -> m.walk(20));
        Picture.same("halt changes nothing", Picture.of(scene), Picture.of(scene.with(Gaitwright::halt)));
        Check.due("the first", 1, g.phase(4, 0, 0, 0, 0));
        Check.due("is next", 0, g.machine(11));
        Check.due("halt", 1, g.halt());
        Check.due("none is next", NONE, g.machine(11));
        Check.isState("nothing to walk", () -> g.walk(1));
    }

    private static void noFalls() {
        Check.part("no falls");
        for (Scene scene : new Scene[] {Gaitwright::new, () -> Build.wide(6), () -> Build.lying(2, 3)}) {
            Gaitwright g = scene.make();
            Check.due("how many", 0, g.machine(9));
            for (int fall : new int[] {0, 1, 39, 40, NONE}) {
                Check.isIndex("fall", () -> g.fall(fall, 0));
                Check.isIndex("fall, wrong as well", () -> g.fall(fall, 4));
            }
        }
    }

    private static void noFeetDown() {
        Check.part("no feet that are down");
        Scene scene = ((Scene) () -> Build.lying(2, 3)).with(g -> {
            for (int i = 0; i < 9; i++) {
                g.chart(8 + i % 3, 8 + i / 3, 9);
            }
            g.load(20, 0, 0);
        });
        Gaitwright g = scene.make();
        Check.due("how many", 0, g.machine(7));
        Check.due("the level", 0, g.machine(5));
        Check.due("the pressure", 0, g.machine(6));
        Check.due("stable", false, g.isStable());
        Check.due("stable anew", false, g.isStableAnew());
        Check.due("margin", Float.floatToIntBits(-1.0f), g.margin());
        for (int corner : new int[] {0, 1, 6, 7, Integer.MAX_VALUE}) {
            Check.due("corner " + corner, NONE, g.corner(corner));
        }
        for (int leg = 0; leg < 4; leg++) {
            Check.due("would lift", NONE, g.wouldLift(leg));
        }
        Check.due("fewest", NONE, g.fewest(10, 10));
        Check.due("fewest anew", NONE, g.fewestAnew(10, 10));
        for (int i = 0; i < 4; i++) {
            int leg = i;
            Picture.unchanged("lift", IllegalStateException.class, scene, m -> m.lift(leg));
        }
        Picture.unchanged("place", IllegalStateException.class, scene, m -> m.place(2, 12, 12));
        Picture.unchanged("shift", IllegalStateException.class, scene, m -> m.shift(-1, 1));
    }

    /** Hips at six points round the body, in the order of a hull. */
    private static final int[][] SIX = {{-1, -3}, {1, -3}, {3, 0}, {1, 3}, {-1, 3}, {-3, 0}};

    private static Gaitwright six() {
        Gaitwright g = new Gaitwright();
        for (int[] hip : SIX) {
            g.leg(hip[0], hip[1], 4);
        }
        return g;
    }

    private static void sixLegs() {
        Check.part("six legs");
        Gaitwright g = new Gaitwright();
        for (int leg = 0; leg < 6; leg++) {
            Check.due("its number", leg, g.leg(SIX[leg][0], SIX[leg][1], 4));
            Check.due("how many", leg + 1, g.machine(10));
        }
        Picture.unchanged("a seventh", IllegalStateException.class, EmptyAndFullTest::six, m -> m.leg(0, 0, 1));
        for (int leg = 0; leg < 6; leg++) {
            Check.due("its hip", 210 + SIX[leg][0] + 20 * SIX[leg][1], g.foothold(leg));
        }
        for (int leg : new int[] {6, 7, NONE}) {
            Check.isIndex("there is none", () -> g.foot(leg, 0));
            Check.isIndex("there is none", () -> g.foothold(leg));
            Check.isIndex("there is none", () -> g.wouldLift(leg));
            Check.isIndex("there is none", () -> g.lift(leg));
            Check.isIndex("there is none", () -> g.place(leg, 10, 10));
            Check.isIndex("there is none", () -> g.phase(leg, 0, 0, 0, 0));
        }
    }

    private static void sixLegsInUse() {
        Check.part("six legs in use");
        Gaitwright g = six();
        Check.due("six rise", 6, g.rise());
        Check.due("six are down", 6, g.machine(7));
        Check.due("10 by 6 is 2", 2, g.machine(6));
        for (int leg = 0; leg < 6; leg++) {
            int[] hip = SIX[leg];
            Check.due("x", 10 + hip[0], g.foot(leg, 1));
            Check.due("y", 10 + hip[1], g.foot(leg, 2));
            Check.due("a corner", 210 + hip[0] + 20 * hip[1], g.corner(leg));
            Check.isState("under each foot", () -> g.ground(10 + hip[0], 10 + hip[1], 0, 0, 0));
        }
        Check.due("a seventh corner", NONE, g.corner(6));
        Check.due("margin", Float.floatToIntBits((float) (9L * 9L * 100L) / (float) (13L * 100L)), g.margin());
        for (int leg = 0; leg < 6; leg++) {
            int same = leg;
            int other = (leg + 1) % 6;
            Check.due("would lift", 0, g.wouldLift(leg));
            Check.due("lifts", 0, g.lift(leg));
            Check.isState("where another foot is",
                    () -> g.place(same, 10 + SIX[other][0], 10 + SIX[other][1]));
            Check.due("places", 0, g.place(leg, 10 + SIX[leg][0], 10 + SIX[leg][1]));
        }
        for (int leg = 0; leg < 6; leg++) {
            g.chart(10 + SIX[leg][0], 10 + SIX[leg][1], 4 + leg);
            Check.due("the level", 4 + leg, g.machine(5));
        }
        // All sink but the last, whose point is firm: so the first by the order of legs is the first.
        Gaitwright soft = six();
        for (int leg = 0; leg < 5; leg++) {
            soft.ground(10 + SIX[leg][0], 10 + SIX[leg][1], 0, 1, 9);
        }
        Check.due("five sink", 0, soft.rise());
        Check.due("five were broken", 5, soft.machine(8));
        Check.due("first that of leg 0, x", 9, soft.fall(0, 2));
        Check.due("first that of leg 0, y", 7, soft.fall(0, 3));
        Check.due("from (7, 10)", 7, soft.fall(0, 0));
    }

    /** The sixth leg is short, so that it alone has to step before the body can go on. */
    private static void sixLegsPlan() {
        Check.part("six legs, plans");
        Gaitwright g = Build.withHips(6, -3, -3, 3, -3, 3, 3, -3, 3, 0, 3);
        g.leg(0, 0, 1);
        g.rise();
        Check.due("one shift", 1, g.fewest(11, 10));
        Check.due("two shifts, and a step of leg 5", 3, g.fewest(12, 10));
        Check.due("the same, anew", 3, g.fewestAnew(12, 10));
        Check.due("its foothold", 210, g.foothold(5));
        g.lift(5);
        Check.due("without it", 2, g.fewest(12, 10));
        Check.due("without it, anew", 2, g.fewestAnew(12, 10));
    }

    /** A machine whose phases all tell apart which leg, which foot's way, and which body's way they have. */
    private static final int[][] EIGHT = {{4, 1, 0, 0, 0}, {5, 0, 1, 0, 0}, {4, 0, 1, 1, 0}, {5, -1, 0, 0, -1},
        {4, -1, 0, 0, 0}, {5, 1, 0, -1, 1}, {4, 0, -1, 0, 0}, {5, 0, -1, 0, 0}};

    private static Gaitwright eight(int phases) {
        Gaitwright g = Build.lying(4, 6);
        g.leg(0, 0, 4);
        g.leg(0, 2, 4);
        g.rise();
        for (int i = 0; i < phases; i++) {
            Check.due("how many", i + 1, g.phase(EIGHT[i][0], EIGHT[i][1], EIGHT[i][2], EIGHT[i][3], EIGHT[i][4]));
        }
        return g;
    }

    private static void eightPhases() {
        Check.part("eight phases");
        Picture.unchanged("a ninth", IllegalStateException.class, () -> eight(8), g -> g.phase(0, 1, 1, 0, 0));
        Gaitwright g = eight(8);
        int[] x = {0, 0, 0, 0, 10, 10};
        int[] y = {0, 0, 0, 0, 10, 12};
        int bodyX = 10;
        int bodyY = 10;
        for (int i = 0; i < 8; i++) {
            int[] phase = EIGHT[i];
            x[phase[0]] += phase[1];
            y[phase[0]] += phase[2];
            bodyX += phase[3];
            bodyY += phase[4];
            Check.due("is next", i, g.machine(11));
            Check.due("is done", 1, g.walk(1));
            for (int leg = 4; leg < 6; leg++) {
                Check.due("foot " + leg + " behind phase " + i + ", x", x[leg], g.foot(leg, 1));
                Check.due("foot " + leg + " behind phase " + i + ", y", y[leg], g.foot(leg, 2));
            }
            Check.due("body behind phase " + i + ", x", bodyX, g.machine(0));
            Check.due("body behind phase " + i + ", y", bodyY, g.machine(1));
        }
        Check.due("behind the eighth the first", 0, g.machine(11));
        Check.isState("a ninth", () -> g.phase(4, 0, 0, 0, 0));
        Check.due("halt", 8, g.halt());
        Check.due("none is next", NONE, g.machine(11));
        for (int i = 1; i <= 8; i++) {
            Check.due("there is room again", i, g.phase(4, 0, 0, 0, 0));
        }
        Check.isState("for no more than eight", () -> g.phase(4, 0, 0, 0, 0));
    }

    /** The gait comes round to its first phase within one walk, with any number of phases. */
    private static void eightPhasesTwice() {
        Check.part("the gait comes round");
        for (int phases = 1; phases <= 8; phases++) {
            for (int walked = 1; walked <= 20; walked++) {
                Gaitwright once = eight(phases);
                Gaitwright step = eight(phases);
                String name = walked + " of " + phases;
                int all = once.walk(walked);
                int single = 0;
                while (single < walked && step.walk(1) == 1) {
                    single++;
                    Check.due(name + ", is next behind " + single, single % phases, step.machine(11));
                }
                Check.due(name + ", done", single, all);
                Check.due(name + ", next", all % phases, once.machine(11));
                Check.due(name + ", as one by one", Build.sketch(step), Build.sketch(once));
            }
        }
        Check.due("eight come round with two to spare", 18, eight(8).walk(18));
        Gaitwright added = eight(2);
        Check.due("round", 2, added.walk(2));
        added.phase(4, 0, 1, 1, 0);
        Check.due("the first is next, also with one more", 0, added.machine(11));
    }

    /** Four feet, of which those told, a bit each, sink as it rises. */
    private static void fallOnce(Gaitwright g, int soft) {
        for (int leg = 0; leg < 4; leg++) {
            int x = 10 + 2 * Build.sideX(leg);
            int y = 10 + 2 * Build.sideY(leg);
            g.ground(x, y, 0, (soft >> leg & 1) != 0 ? 1 : 99, 9);
        }
        Check.due("falls", 0, g.rise());
    }

    private static final int[] SOFT = {0b0011, 0b0110, 0b1100, 0b1001, 0b0111, 0b1110, 0b1101, 0b1011, 0b1111};
    private static final int[] DIRECTION = {3, 7, 5, 1, 6, 8, 2, 0, 4};
    private static final int[] FIRST = {0, 1, 2, 0, 0, 1, 0, 0, 0};

    private static void falls(Gaitwright g, int falls) {
        for (int i = 0; i < falls; i++) {
            fallOnce(g, SOFT[i % 9]);
        }
    }

    private static void fortyFalls() {
        Check.part("40 falls and more");
        for (int falls : new int[] {39, 40, 41, 45}) {
            Gaitwright g = Build.lying(2, 3);
            falls(g, falls);
            Check.due("all are counted", falls, g.machine(9));
            int kept = Math.min(40, falls);
            for (int i = 0; i < kept; i++) {
                int first = FIRST[i % 9];
                Check.due("fall " + i + ", direction", DIRECTION[i % 9], g.fall(i, 0));
                Check.due("fall " + i + ", what", 2, g.fall(i, 1));
                Check.due("fall " + i + ", x", first == 0 ? 8 : 12, g.fall(i, 2));
                Check.due("fall " + i + ", y", first < 2 ? 8 : 12, g.fall(i, 3));
            }
            Check.isIndex("not kept, or none", () -> g.fall(kept, 0));
            Check.isIndex("not kept, or none", () -> g.fall(falls, 0));
            Check.isIndex("the last that was", () -> g.fall(Math.max(40, falls - 1), 0));
        }
    }

    private static void fullEnergy() {
        Check.part("energy of 1000");
        Gaitwright g = new Gaitwright();
        Check.due("at first", 1000, g.machine(3));
        for (int much : new int[] {1, 999, 1000}) {
            Check.due("no more", 1000, g.charge(much));
            Check.due("no more", 1000, g.machine(3));
        }
        Gaitwright low = Build.lying(2, 3);
        low.rise();
        Check.due("just short of it", 999, low.charge(19));
        Check.due("just at it", 1000, low.charge(1));
        low.lift(0);
        Check.due("beyond it", 1000, low.charge(2));
    }
}

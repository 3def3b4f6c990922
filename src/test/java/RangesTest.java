import java.util.List;

/**
 * The ranges of all arguments: each value from the least to the greatest is taken, the ones next to these and
 * the least and the greatest int are not, and change nothing. And of several exceptions, the one that comes.
 */
public final class RangesTest {
    private static final Class<? extends RuntimeException> ARGUMENT = IllegalArgumentException.class;
    private static final Class<? extends RuntimeException> INDEX = IndexOutOfBoundsException.class;
    private static final Class<? extends RuntimeException> STATE = IllegalStateException.class;

    private interface Call {
        long on(Gaitwright g, int... a);
    }

    /** A call with its usual arguments, of which one at a time is put in place by another. */
    private static final class Ranged {
        private final String name;
        private final Scene scene;
        private final Call call;
        private final int[] usual;
        private final List<String> before;

        Ranged(String name, Scene scene, Call call, int... usual) {
            this.name = name;
            this.scene = scene;
            this.call = call;
            this.usual = usual;
            before = Picture.of(scene);
        }

        Ranged range(Class<? extends RuntimeException> due, int which, int least, int most) {
            for (int value = least; value <= most && value <= least + 2000; value++) {
                taken(which, value);
            }
            taken(which, most);
            if (least > Integer.MIN_VALUE) {
                wrong(due, which, least - 1);
                wrong(due, which, Integer.MIN_VALUE);
            }
            if (most < Integer.MAX_VALUE) {
                wrong(due, which, most + 1);
                wrong(due, which, Integer.MAX_VALUE);
            }
            return this;
        }

        /** That the argument is in range: refused or not is another matter. */
        private void taken(int which, int value) {
            int[] a = usual.clone();
            a[which] = value;
            String answer = Check.answerOf(() -> call.on(scene.make(), a));
            boolean isTaken = !answer.startsWith("throws.") || answer.equals("throws.IllegalStateException");
            Check.due(name(a) + ", " + answer + ", is taken", true, isTaken);
        }

        private void wrong(Class<? extends RuntimeException> due, int which, int value) {
            int[] a = usual.clone();
            a[which] = value;
            Picture.unchanged(name(a), due, scene, before, g -> call.on(g, a));
        }

        private String name(int[] a) {
            return name + java.util.Arrays.toString(a);
        }
    }

    public static void main(String[] args) {
        told();
        acts();
        asked();
        askedOfFalls();
        takenAsTold();
        firstNamed();
        refusedComesLast();
        Check.end();
    }

    private static Ranged of(String name, Scene scene, Call call, int... usual) {
        return new Ranged(name, scene, call, usual);
    }

    private static Gaitwright wide() {
        return Build.wide(6);
    }

    private static Gaitwright lying() {
        return Build.lying(2, 3);
    }

    private static void told() {
        Check.part("ranges, promises 2 to 6");
        of("ground", RangesTest::wide, (g, a) -> g.ground(a[0], a[1], a[2], a[3], a[4]), 3, 4, 5, 6, 7)
                .range(ARGUMENT, 0, 0, 19).range(ARGUMENT, 1, 0, 19).range(ARGUMENT, 2, 0, 9)
                .range(ARGUMENT, 3, 0, 99).range(ARGUMENT, 4, 0, 9);
        of("chart", RangesTest::wide, (g, a) -> g.chart(a[0], a[1], a[2]), 3, 4, 5)
                .range(ARGUMENT, 0, 0, 19).range(ARGUMENT, 1, 0, 19).range(ARGUMENT, 2, 0, 9);
        of("leg", RangesTest::lying, (g, a) -> g.leg(a[0], a[1], a[2]), 1, 0, 3)
                .range(ARGUMENT, 0, -5, 5).range(ARGUMENT, 1, -5, 5).range(ARGUMENT, 2, 1, 6);
        of("charge", () -> Build.poor(500), (g, a) -> g.charge(a[0]), 5).range(ARGUMENT, 0, 1, 1000);
        of("phase", RangesTest::wide, (g, a) -> g.phase(a[0], a[1], a[2], a[3], a[4]), 2, 1, -1, 0, 1)
                .range(INDEX, 0, 0, 4).range(ARGUMENT, 1, -6, 6).range(ARGUMENT, 2, -6, 6)
                .range(ARGUMENT, 3, -1, 1).range(ARGUMENT, 4, -1, 1);
    }

    private static void acts() {
        Check.part("ranges, promises 8 to 13");
        for (Scene scene : new Scene[] {RangesTest::lying, RangesTest::wide}) {
            of("load", scene, (g, a) -> g.load(a[0], a[1], a[2]), 1, 0, 0)
                    .range(ARGUMENT, 0, 0, 20).range(ARGUMENT, 1, -5, 5).range(ARGUMENT, 2, -5, 5);
        }
        of("lift", RangesTest::wide, (g, a) -> g.lift(a[0]), 0).range(INDEX, 0, 0, 4);
        of("place", RangesTest::wide, (g, a) -> g.place(a[0], a[1], a[2]), 4, 10, 11)
                .range(INDEX, 0, 0, 4).range(ARGUMENT, 1, 0, 19).range(ARGUMENT, 2, 0, 19);
        of("shift", RangesTest::wide, (g, a) -> g.shift(a[0], a[1]), 1, -1)
                .range(ARGUMENT, 0, -1, 1).range(ARGUMENT, 1, -1, 1);
        Picture.unchanged("no way", ARGUMENT, RangesTest::wide, g -> g.shift(0, 0));
        Scene phases = ((Scene) RangesTest::wide).with(g -> {
            g.place(4, 10, 10);
            g.phase(4, 1, 0, 0, 0);
            g.phase(4, -1, 0, 0, 0);
        });
        of("walk", phases, (g, a) -> g.walk(a[0]), 1).range(ARGUMENT, 0, 1, 20);
        for (int n = 1; n <= 20; n++) {
            Check.due("as many phases as told", n, phases.make().walk(n));
        }
    }

    private static void asked() {
        Check.part("ranges, promises 14 to 24");
        Scene wide = RangesTest::wide;
        of("machine", wide, (g, a) -> g.machine(a[0]), 0).range(ARGUMENT, 0, 0, 11);
        of("foot", wide, (g, a) -> g.foot(a[0], a[1]), 0, 0).range(INDEX, 0, 0, 4).range(ARGUMENT, 1, 0, 2);
        of("point", wide, (g, a) -> g.point(a[0], a[1], a[2]), 3, 4, 0)
                .range(ARGUMENT, 0, 0, 19).range(ARGUMENT, 1, 0, 19).range(ARGUMENT, 2, 0, 3);
        of("corner", wide, (g, a) -> g.corner(a[0]), 0).range(ARGUMENT, 0, 0, Integer.MAX_VALUE);
        of("foothold", wide, (g, a) -> g.foothold(a[0]), 0).range(INDEX, 0, 0, 4);
        of("wouldLift", wide, (g, a) -> g.wouldLift(a[0]), 0).range(INDEX, 0, 0, 4);
        of("fewest", wide, (g, a) -> g.fewest(a[0], a[1]), 10, 10)
                .range(ARGUMENT, 0, 0, 19).range(ARGUMENT, 1, 0, 19);
        of("fewestAnew", wide, (g, a) -> g.fewestAnew(a[0], a[1]), 10, 10)
                .range(ARGUMENT, 0, 0, 19).range(ARGUMENT, 1, 0, 19);
    }

    /** A machine on one soft point, that has fallen so often. */
    private static Scene fallen(int falls) {
        return () -> {
            Gaitwright g = Build.withHips(2, 0, 0);
            g.ground(10, 10, 3, 9, 9);
            g.chart(10, 10, 3);
            for (int i = 0; i < falls; i++) {
                g.rise();
            }
            return g;
        };
    }

    private static void askedOfFalls() {
        Check.part("ranges, promise 25");
        for (int falls : new int[] {1, 2, 39, 40}) {
            of("fall", fallen(falls), (g, a) -> g.fall(a[0], a[1]), 0, 0)
                    .range(INDEX, 0, 0, falls - 1).range(ARGUMENT, 1, 0, 3);
        }
        of("fall", fallen(41), (g, a) -> g.fall(a[0], a[1]), 0, 0).range(INDEX, 0, 0, 39);
        Picture.unchanged("no fall", INDEX, RangesTest::wide, g -> g.fall(0, 0));
    }

    /** What is told is what is asked for then, for each value. */
    private static void takenAsTold() {
        Check.part("as told, promises 2 to 6 and 8");
        Gaitwright g = lying();
        for (int value = 0; value <= 9; value++) {
            Check.due("height before", Math.max(0, value - 1), g.ground(3, 4, value, 9 * value, 9 - value));
            Check.due("mapped before", value == 0 ? 0 : (value + 4) % 10, g.chart(3, 4, (value + 5) % 10));
            Check.due("height", value, g.point(3, 4, 0));
            Check.due("firmness", 9 * value, g.point(3, 4, 1));
            Check.due("grip", 9 - value, g.point(3, 4, 2));
            Check.due("mapped", (value + 5) % 10, g.point(3, 4, 3));
        }
        Gaitwright firm = new Gaitwright();
        for (int value = 0; value <= 99; value++) {
            Check.due("height before", 0, firm.ground(19, 19, 0, value, 0));
            Check.due("firmness", value, firm.point(19, 19, 1));
        }
        for (int i = 0; i < 121; i++) {
            int x = i % 11 - 5;
            int y = i / 11 - 5;
            Gaitwright one = new Gaitwright();
            one.leg(x, y, 1);
            Check.due("hip by " + x + ", " + y, 20 * (10 + y) + 10 + x, one.foothold(0));
        }
        Gaitwright loaded = wide();
        for (int weight = 0; weight <= 20; weight++) {
            Check.due("load", 0, loaded.load(weight, 0, 0));
            Check.due("load of", weight, loaded.machine(4));
        }
        Gaitwright full = Build.poor(0);
        Check.due("charged by 1", 1, full.charge(1));
        Check.due("charged by 998", 999, full.charge(998));
        Check.due("charged to the brim", 1000, full.charge(1));
        Check.due("charged from the brim", 1000, full.charge(1));
        Check.due("charged by 1000 at once", 1000, Build.poor(0).charge(1000));
        Check.due("charged by 999 at once", 999, Build.poor(0).charge(999));
        Check.due("charged beyond the brim", 1000, Build.poor(1).charge(1000));
    }

    /** A wrong leg or fall comes ahead of a wrong argument. */
    private static void firstNamed() {
        Check.part("the first exception that is named");
        for (int leg : new int[] {-1, 5, Integer.MIN_VALUE, Integer.MAX_VALUE}) {
            Gaitwright g = wide();
            Check.isIndex("phase", () -> g.phase(leg, 7, 0, 0, 0));
            Check.isIndex("phase", () -> g.phase(leg, 0, -7, 0, 0));
            Check.isIndex("phase", () -> g.phase(leg, 0, 0, 2, 0));
            Check.isIndex("phase", () -> g.phase(leg, 0, 0, 0, -2));
            Check.isIndex("place", () -> g.place(leg, -1, 10));
            Check.isIndex("place", () -> g.place(leg, 10, 20));
            Check.isIndex("foot", () -> g.foot(leg, 3));
            Check.isIndex("foot", () -> g.foot(leg, -1));
            Gaitwright h = lying();
            Check.isIndex("place, lying", () -> h.place(leg, 10, 20));
            Check.isIndex("lift, lying", () -> h.lift(leg));
        }
        for (int fall : new int[] {-1, 3, Integer.MIN_VALUE, Integer.MAX_VALUE}) {
            Gaitwright g = fallen(3).make();
            Check.isIndex("fall", () -> g.fall(fall, 4));
            Check.isIndex("fall", () -> g.fall(fall, -1));
        }
    }

    /** A wrong argument comes ahead of what is refused, or not allowed as it stands. */
    private static void refusedComesLast() {
        Check.part("what is not allowed as it stands comes last");
        Gaitwright g = wide();
        Check.isState("ground, a foot is there", () -> g.ground(5, 5, 0, 0, 0));
        Check.isArgument("ground, a foot is there", () -> g.ground(5, 5, -1, 0, 0));
        Check.isArgument("ground, a foot is there", () -> g.ground(5, 5, 0, 100, 0));
        Check.isArgument("ground, a foot is there", () -> g.ground(5, 5, 0, 0, 10));
        Check.isState("leg, it stands", () -> g.leg(0, 0, 1));
        Check.isArgument("leg, it stands", () -> g.leg(6, 0, 1));
        Check.isArgument("leg, it stands", () -> g.leg(0, -6, 1));
        Check.isArgument("leg, it stands", () -> g.leg(0, 0, 7));
        Check.isState("walk, no phases", () -> g.walk(1));
        Check.isArgument("walk, no phases", () -> g.walk(0));
        Check.isArgument("walk, no phases", () -> g.walk(21));
        for (int i = 0; i < 8; i++) {
            g.phase(4, 0, 0, 0, 0);
        }
        Check.isState("phase, a ninth", () -> g.phase(4, 0, 0, 0, 0));
        Check.isArgument("phase, a ninth", () -> g.phase(4, -7, 0, 0, 0));
        Check.isArgument("phase, a ninth", () -> g.phase(4, 0, 7, 0, 0));
        Check.isArgument("phase, a ninth", () -> g.phase(4, 0, 0, -2, 0));
        Check.isArgument("phase, a ninth", () -> g.phase(4, 0, 0, 0, 2));
        Check.isIndex("phase, a ninth", () -> g.phase(5, 0, 0, 0, 0));
        Gaitwright line = Build.withHips(3, -2, 0, 2, 0);
        line.rise();
        Check.isState("load, beside the line", () -> line.load(20, 0, 5));
        Check.isArgument("load, beside the line", () -> line.load(20, 0, 6));
        Check.isArgument("load, beside the line", () -> line.load(20, -6, 5));
        Check.isArgument("load, beside the line", () -> line.load(21, 0, 5));
        Gaitwright lying = lying();
        Check.isState("place, lying", () -> lying.place(0, 8, 8));
        Check.isArgument("place, lying", () -> lying.place(0, -1, 8));
        Check.isArgument("place, lying", () -> lying.place(0, 8, 20));
        Check.isState("shift, lying", () -> lying.shift(0, 1));
        Check.isArgument("shift, lying", () -> lying.shift(0, 0));
        Check.isArgument("shift, lying", () -> lying.shift(2, 0));
        Check.isArgument("shift, lying", () -> lying.shift(0, -2));
        for (int leg = 0; leg < 2; leg++) {
            lying.leg(0, leg, 1);
        }
        Check.isState("leg, a seventh", () -> lying.leg(0, 0, 1));
        Check.isArgument("leg, a seventh", () -> lying.leg(-6, 0, 1));
        Check.isArgument("leg, a seventh", () -> lying.leg(0, 6, 1));
        Check.isArgument("leg, a seventh", () -> lying.leg(0, 0, 0));
    }
}

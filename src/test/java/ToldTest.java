/** Promises 1 to 7: a new object, and what is told. */
public final class ToldTest {
    public static void main(String[] args) {
        newObject();
        ground();
        groundIsNoAct();
        chart();
        leg();
        charge();
        phase();
        halt();
        Check.end();
    }

    private static void newObject() {
        Check.part("promise 1");
        Gaitwright g = new Gaitwright();
        int[] due = {10, 10, 0, 1000, 0, 0, 0, 0, 0, 0, 0, -1};
        for (int what = 0; what < due.length; what++) {
            Check.due("machine(" + what + ")", due[what], g.machine(what));
        }
        for (int p : new int[] {0, 19, 20, 210, 380, 399}) {
            Check.due("height", 0, g.point(p % 20, p / 20, 0));
            Check.due("firmness", 99, g.point(p % 20, p / 20, 1));
            Check.due("grip", 9, g.point(p % 20, p / 20, 2));
            Check.due("mapped", 0, g.point(p % 20, p / 20, 3));
        }
        Check.due("stable", false, g.isStable());
        Check.due("stable anew", false, g.isStableAnew());
        Check.due("margin", Float.floatToIntBits(-1.0f), g.margin());
        Check.due("corner(0)", -1, g.corner(0));
        Check.due("fewest to where it lies", -1, g.fewest(10, 10));
        Check.due("fewest anew", -1, g.fewestAnew(10, 10));
        Check.isIndex("no leg", () -> g.foot(0, 0));
        Check.isIndex("no fall", () -> g.fall(0, 0));
        Check.isState("no legs to rise on", g::rise);
        Check.due("no phases", 0, g.halt());
        Check.due("NONE", -1, Gaitwright.NONE);
    }

    private static void ground() {
        Check.part("promise 2");
        Gaitwright g = Build.standing(2, 3);
        Check.due("first", 0, g.ground(3, 4, 5, 6, 7));
        Check.due("height", 5, g.point(3, 4, 0));
        Check.due("firmness", 6, g.point(3, 4, 1));
        Check.due("grip", 7, g.point(3, 4, 2));
        Check.due("the map stays", 0, g.point(3, 4, 3));
        Check.due("x and y are not one for the other", 0, g.point(4, 3, 0));
        Check.due("again", 5, g.ground(3, 4, 9, 99, 9));
        Check.due("and again", 9, g.ground(3, 4, 0, 0, 0));
        Check.due("least firmness", 0, g.point(3, 4, 1));
        Check.due("least grip", 0, g.point(3, 4, 2));
        for (int p : new int[] {0, 19, 380, 399}) {
            Check.due("the edges", 0, g.ground(p % 20, p / 20, 1, 1, 1));
        }
        int[][] wrong = {{-1, 5, 0, 0, 0}, {20, 5, 0, 0, 0}, {5, -1, 0, 0, 0}, {5, 20, 0, 0, 0},
            {5, 5, -1, 0, 0}, {5, 5, 10, 0, 0}, {5, 5, 0, -1, 0}, {5, 5, 0, 100, 0},
            {5, 5, 0, 0, -1}, {5, 5, 0, 0, 10}, {8, 8, 10, 0, 0},
            {Integer.MIN_VALUE, 5, 0, 0, 0}, {5, Integer.MAX_VALUE, 0, 0, 0}};
        for (int[] w : wrong) {
            Check.isArgument("wrong ground " + java.util.Arrays.toString(w),
                    () -> g.ground(w[0], w[1], w[2], w[3], w[4]));
        }
        Check.due("nothing was told by those", 99, g.point(5, 5, 1));
        Check.isState("a foot is down there", () -> g.ground(8, 8, 1, 1, 1));
        Check.due("nor by that", 0, g.point(8, 8, 0));
        Check.due("nor by that", 99, g.point(8, 8, 1));
        g.lift(0);
        Check.due("the foot is up", 0, g.ground(8, 8, 1, 1, 1));
    }

    private static void groundIsNoAct() {
        Check.part("promise 2, no act");
        Gaitwright g = Build.lying(2, 3);
        g.ground(8, 8, 2, 99, 0);
        g.chart(8, 8, 2);
        g.ground(8, 7, 2, 99, 9);
        g.ground(7, 8, 2, 99, 9);
        g.ground(9, 8, 2, 99, 9);
        g.ground(8, 9, 2, 99, 9);
        Check.due("rises", 4, g.rise());
        g.ground(8, 7, 0, 0, 0);
        Check.due("no foot slips by telling", 0, g.machine(8));
        Check.due("it is down", 1, g.foot(0, 0));
        Check.due("energy", 980, g.machine(3));
    }

    private static void chart() {
        Check.part("promise 3");
        Gaitwright g = Build.standing(2, 3);
        Check.due("first", 0, g.chart(3, 4, 9));
        Check.due("again", 9, g.chart(3, 4, 1));
        Check.due("mapped", 1, g.point(3, 4, 3));
        Check.due("the height stays", 0, g.point(3, 4, 0));
        Check.due("x and y are not one for the other", 0, g.point(4, 3, 3));
        Check.due("under a foot", 0, g.chart(12, 8, 7));
        Check.due("the level follows", 7, g.machine(5));
        Check.due("no act", 980, g.machine(3));
        int[][] wrong = {{-1, 5, 0}, {20, 5, 0}, {5, -1, 0}, {5, 20, 0}, {5, 5, -1}, {5, 5, 10}};
        for (int[] w : wrong) {
            Check.isArgument("wrong chart " + java.util.Arrays.toString(w), () -> g.chart(w[0], w[1], w[2]));
        }
        Check.due("nothing was told by those", 0, g.point(5, 5, 3));
    }

    private static void leg() {
        Check.part("promise 4");
        Gaitwright g = new Gaitwright();
        int[][] wrong = {{-6, 0, 1}, {6, 0, 1}, {0, -6, 1}, {0, 6, 1}, {0, 0, 0}, {0, 0, 7}, {0, 0, -1}};
        for (int[] w : wrong) {
            Check.isArgument("wrong leg " + java.util.Arrays.toString(w), () -> g.leg(w[0], w[1], w[2]));
        }
        Check.due("none was added", 0, g.machine(10));
        int[][] right = {{-5, -5, 1}, {5, -5, 6}, {5, 5, 6}, {-5, 5, 1}, {0, 0, 3}, {0, 0, 3}};
        for (int i = 0; i < right.length; i++) {
            Check.due("its number", i, g.leg(right[i][0], right[i][1], right[i][2]));
            Check.due("its foot is up", 0, g.foot(i, 0));
            Check.due("how many", i + 1, g.machine(10));
        }
        Check.isState("a seventh", () -> g.leg(0, 0, 1));
        Check.isArgument("a wrong seventh", () -> g.leg(0, 6, 1));
        Check.isIndex("there is none", () -> g.foot(6, 0));

        Gaitwright s = Build.withHips(2, 0, 0);
        s.ground(10, 10, 0, 9, 9);
        Check.due("falls at once", 0, s.rise());
        Check.due("may be added then", 1, s.leg(1, 0, 2));
        s.ground(10, 10, 0, 10, 9);
        s.ground(11, 10, 0, 10, 9);
        Check.due("rises", 2, s.rise());
        Check.isState("it stands", () -> s.leg(0, 1, 2));
        Check.isArgument("it stands, and is wrong", () -> s.leg(0, 1, 0));
        Check.due("none was added", 2, s.machine(10));
    }

    private static void charge() {
        Check.part("promise 5");
        Gaitwright g = Build.standing(2, 3);
        Check.due("some", 985, g.charge(5));
        Check.due("told", 985, g.machine(3));
        Check.due("to the brim", 1000, g.charge(15));
        Check.due("not beyond", 1000, g.charge(1));
        Check.due("the most", 1000, g.charge(1000));
        for (int much : new int[] {0, -1, 1001, Integer.MIN_VALUE, Integer.MAX_VALUE}) {
            Check.isArgument("charge(" + much + ")", () -> g.charge(much));
        }
        Check.due("as it was", 1000, g.machine(3));
    }

    private static void phase() {
        Check.part("promise 6");
        Gaitwright none = new Gaitwright();
        Check.isIndex("no legs", () -> none.phase(0, 0, 0, 0, 0));
        Gaitwright g = Build.lying(2, 3);
        int[][] wrong = {{-7, 0, 0, 0}, {7, 0, 0, 0}, {0, -7, 0, 0}, {0, 7, 0, 0},
            {0, 0, -2, 0}, {0, 0, 2, 0}, {0, 0, 0, -2}, {0, 0, 0, 2}};
        for (int[] w : wrong) {
            Check.isArgument("wrong way " + java.util.Arrays.toString(w),
                    () -> g.phase(0, w[0], w[1], w[2], w[3]));
            Check.isIndex("wrong leg and way", () -> g.phase(4, w[0], w[1], w[2], w[3]));
        }
        Check.isIndex("leg -1", () -> g.phase(-1, 0, 0, 0, 0));
        Check.due("none was added", -1, g.machine(11));
        int[][] right = {{-6, -6, -1, -1}, {6, 6, 1, 1}, {0, 0, 0, 0}, {1, 2, 0, 1}};
        for (int i = 0; i < 8; i++) {
            int[] w = right[i % 4];
            Check.due("how many", i + 1, g.phase(i % 4, w[0], w[1], w[2], w[3]));
        }
        Check.isState("a ninth", () -> g.phase(0, 0, 0, 0, 0));
        Check.isArgument("a wrong ninth", () -> g.phase(0, 7, 0, 0, 0));
        Check.isIndex("a ninth of no leg", () -> g.phase(4, 7, 0, 0, 0));
        Check.due("still eight", 8, g.halt());
    }

    private static void halt() {
        Check.part("promise 7");
        Gaitwright g = Build.standing(2, 3);
        g.phase(0, 1, 0, 0, 0);
        g.phase(1, 1, 0, 0, 0);
        Check.due("the first is next", 0, g.machine(11));
        Check.due("one is done", 1, g.walk(1));
        Check.due("the second is next", 1, g.machine(11));
        g.phase(2, 1, 0, 0, 0);
        Check.due("one more changes nothing about that", 1, g.machine(11));
        Check.due("how many", 3, g.halt());
        Check.due("none is next", -1, g.machine(11));
        Check.due("none", 0, g.halt());
        Check.isState("nothing to walk", () -> g.walk(1));
        Check.due("a new first one", 1, g.phase(2, 0, 0, 0, 0));
        Check.due("is next", 0, g.machine(11));
        Check.due("and is done", 1, g.walk(1));
        Check.due("it is foot 0 that has gone", 9, g.foot(0, 1));
        Check.due("foot 1 has not", 12, g.foot(1, 1));
    }
}

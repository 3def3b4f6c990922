/** The edges that 'Gaits' in the document's terms names: what a phase does, and where a walk ends early. */
public final class GaitsTest {
    private static final int NONE = -1;

    public static void main(String[] args) {
        ways();
        bodyWays();
        asManyAsTold();
        comesRound();
        endsByEnergy();
        endsAtLifting();
        endsAtPlacing();
        endsBeyondAllPoints();
        endsBeyondTheCorners();
        endsAtShifting();
        endsByLifting();
        endsByPlacing();
        endsByFalling();
        lying();
        halting();
        Check.end();
    }

    /** Foot 4 is down at (10, 10), its reach is 6. */
    private static Gaitwright ready() {
        Gaitwright g = Build.wide(6);
        g.place(4, 10, 10);
        return g;
    }

    private static void at(String what, Gaitwright g, int leg, int x, int y) {
        Check.due(what + ", foot x", x, g.foot(leg, 1));
        Check.due(what + ", foot y", y, g.foot(leg, 2));
    }

    private static void body(String what, Gaitwright g, int x, int y) {
        Check.due(what + ", body x", x, g.machine(0));
        Check.due(what + ", body y", y, g.machine(1));
    }

    /** Each way of the foot, from the middle, and the widest from one side of the hip to the other. */
    private static void ways() {
        Check.part("ways of the foot");
        for (int i = 0; i < 169; i++) {
            int x = i % 13 - 6;
            int y = i / 13 - 6;
            boolean isDue = x * x + y * y <= 36;
            String name = "way " + x + ", " + y;
            Gaitwright g = ready();
            g.phase(4, x, y, 0, 0);
            int before = g.machine(3);
            Check.due(name, isDue ? 1 : 0, g.walk(1));
            Check.due(name + ", the first is next", 0, g.machine(11));
            body(name, g, 10, 10);
            if (isDue) {
                at(name, g, 4, 10 + x, 10 + y);
                Check.due(name + ", cost", before - 2 - Math.abs(x) - Math.abs(y), g.machine(3));
            } else {
                Check.due(name + ", up", 0, g.foot(4, 0));
                Check.due(name + ", lifting is paid for", before - 1, g.machine(3));
            }
        }
        int[][] across = {{6, 0}, {-6, 0}, {0, 6}, {0, -6}, {6, 6}, {-6, 6}, {6, -6}, {-6, -6}};
        for (int[] way : across) {
            Gaitwright g = Build.wide(6);
            g.place(4, 10 - way[0] / 2, 10 - way[1] / 2);
            g.phase(4, way[0], way[1], 0, 0);
            g.phase(4, -way[0], -way[1], 0, 0);
            Check.due("across", 1, g.walk(1));
            at("across", g, 4, 10 + way[0] / 2, 10 + way[1] / 2);
            Check.due("back", 1, g.walk(1));
            at("back", g, 4, 10 - way[0] / 2, 10 - way[1] / 2);
        }
    }

    /** Each way of the body: 0 in both is no shift, and costs nothing. */
    private static void bodyWays() {
        Check.part("ways of the body");
        for (int way = 0; way < 9; way++) {
            int x = way % 3 - 1;
            int y = way / 3 - 1;
            Gaitwright g = ready();
            g.load(1, 0, 0);
            g.phase(4, 0, 0, x, y);
            int before = g.machine(3);
            Check.due("done", 1, g.walk(1));
            body("way " + x + ", " + y, g, 10 + x, 10 + y);
            at("the foot stays", g, 4, 10, 10);
            Check.due("cost of " + x + ", " + y, before - 2 - (way == 4 ? 0 : 2), g.machine(3));
        }
        Gaitwright poor = Build.poor(2);
        poor.phase(4, 0, 0, 0, 0);
        Check.due("without a shift 2 is enough", 1, poor.walk(1));
        Check.due("nothing is left", 0, poor.machine(3));
    }

    private static void asManyAsTold() {
        Check.part("as many phases as told");
        for (int phases = 1; phases <= 20; phases++) {
            Gaitwright g = ready();
            g.phase(4, 1, 0, 0, 0);
            g.phase(4, -1, 0, 0, 0);
            g.phase(4, 0, 0, 0, 0);
            int before = g.machine(3);
            Check.due("walks", phases, g.walk(phases));
            Check.due("next behind " + phases, phases % 3, g.machine(11));
            at("behind " + phases, g, 4, phases % 3 == 1 ? 11 : 10, 10);
            Check.due("paid", before - 2 * phases - (phases + 2) / 3, g.machine(3));
        }
    }

    private static void comesRound() {
        Check.part("the first behind the last");
        Gaitwright g = ready();
        g.phase(4, 2, 0, 0, 0);
        g.phase(4, 0, 2, 0, 0);
        g.phase(4, -2, -2, 0, 0);
        int[][] due = {{12, 10}, {12, 12}, {10, 10}};
        for (int i = 0; i < 12; i++) {
            Check.due("next", i % 3, g.machine(11));
            Check.due("walks", 1, g.walk(1));
            at("behind phase " + i, g, 4, due[i % 3][0], due[i % 3][1]);
        }
        Check.due("just to the last", 2, g.walk(2));
        Check.due("the last is next", 2, g.machine(11));
        Check.due("over the last to the first", 2, g.walk(2));
        at("behind the first", g, 4, 12, 10);
        Check.due("the second is next", 1, g.machine(11));
        g.phase(4, 0, 0, 0, 0);
        Check.due("with a fourth it is the second still", 1, g.machine(11));
        Check.due("over the fourth to the first", 4, g.walk(4));
        Check.due("the second is next", 1, g.machine(11));
        at("behind the first", g, 4, 12, 10);
    }

    /** A phase of 1 for lifting, 2 for placing, and 1 for shifting: it ends where the energy does. */
    private static void endsByEnergy() {
        Check.part("ending early, energy");
        for (int energy = 0; energy <= 9; energy++) {
            Gaitwright g = Build.poor(energy);
            g.phase(4, 0, 1, 0, 1);
            g.phase(4, 0, -1, 0, -1);
            int phases = energy / 4;
            int rest = energy % 4;
            String name = "energy " + energy;
            Check.due(name + ", done", phases, g.walk(20));
            Check.due(name + ", next", phases % 2, g.machine(11));
            Check.due(name + ", left", rest == 2 ? 1 : 0, g.machine(3));
            Check.due(name + ", foot", rest == 1 || rest == 2 ? 0 : 1, g.foot(4, 0));
            body(name, g, 10, 10 + phases % 2);
        }
    }

    private static void endsAtLifting() {
        Check.part("ending early, at lifting");
        Gaitwright up = ready();
        up.phase(4, 1, 0, 0, 0);
        up.phase(4, 0, 0, 0, 0);
        up.walk(1);
        up.lift(4);
        String before = Build.sketch(up);
        Check.due("its foot is up", 0, up.walk(5));
        Check.due("nothing is done", before, Build.sketch(up));
        Check.due("it is next", 1, up.machine(11));
        up.place(4, 10, 10);
        Check.due("down again it is done", 1, up.walk(1));
        Check.due("the first is next", 0, up.machine(11));
        Gaitwright line = Build.standing(2, 3);
        line.phase(0, 0, 0, 0, 0);
        line.phase(1, 1, 1, 0, 0);
        line.lift(3);
        Check.due("not stable without it", 0, line.walk(2));
        Check.due("the first is next", 0, line.machine(11));
        Check.due("down", 1, line.foot(0, 0));
        Check.due("paid for lifting 3 alone", 979, line.machine(3));
        line.place(3, 8, 12);
        Check.due("stable without it", 2, line.walk(2));
        at("leg 1", line, 1, 13, 9);
    }

    /** Each cause for which placing is refused: the foot stays up, the phase is next, nothing more is done. */
    private static void endsAtPlacing() {
        Check.part("ending early, at placing");
        Gaitwright far = ready();
        far.phase(4, 6, 0, 0, 0);
        far.phase(4, 0, 1, 1, 0);
        Check.due("out of reach in the second", 1, far.walk(20));
        placedNot("out of reach", far, 1);
        Gaitwright taken = Build.withFreeFoot();
        taken.place(4, 8, 9);
        taken.phase(4, 0, -1, 1, 0);
        Check.due("a foot is there", 0, taken.walk(1));
        placedNot("a foot is there", taken, 0);
        Gaitwright high = ready();
        high.chart(11, 10, 3);
        high.phase(4, 1, 0, 0, 0);
        Check.due("3 higher", 0, high.walk(1));
        placedNot("3 higher", high, 0);
        high.place(4, 10, 10);
        high.chart(11, 10, 2);
        high.ground(11, 10, 2, 99, 9);
        Check.due("2 higher", 1, high.walk(1));
        Gaitwright low = ready();
        low.chart(5, 5, 3);
        low.phase(4, 0, 1, 0, 0);
        Check.due("3 lower", 0, low.walk(1));
        placedNot("3 lower", low, 0);
        // The level is without the foot that is lifted.
        Gaitwright own = ready();
        own.chart(10, 10, 3);
        own.phase(4, 1, 0, 0, 0);
        Check.due("its own foot is no level", 1, own.walk(1));
        Gaitwright reach = ready();
        reach.phase(4, 3, 4, 0, 0);
        reach.phase(4, 3, -4, 0, 0);
        Check.due("just in reach", 2, reach.walk(2));
        at("just in reach", reach, 4, 16, 10);
    }

    private static void placedNot(String what, Gaitwright g, int next) {
        Check.due(what + ", up", 0, g.foot(4, 0));
        Check.due(what + ", next", next, g.machine(11));
        body(what, g, 10, 10);
        Check.due(what + ", stands", 1, g.machine(2));
        Check.due(what + ", nothing was broken", 0, g.machine(8));
        int energy = g.machine(3);
        Check.due(what + ", again: its foot is up", 0, g.walk(1));
        Check.due(what + ", no more is paid", energy, g.machine(3));
    }

    /** On each side of the ground, just on the last point and just beyond it. */
    private static void endsBeyondAllPoints() {
        Check.part("ending early, beyond all points");
        // leg, the point beside the edge, and the way to the edge
        int[][] edges = {{0, 1, 5, -1, 0}, {1, 18, 5, 1, 0}, {0, 5, 1, 0, -1}, {3, 5, 18, 0, 1}};
        for (int[] e : edges) {
            Gaitwright g = ready();
            g.lift(e[0]);
            g.place(e[0], e[1], e[2]);
            g.phase(e[0], e[3], e[4], 0, 0);
            Check.due("on the last point", 1, g.walk(1));
            at("on the last point", g, e[0], e[1] + e[3], e[2] + e[4]);
            int energy = g.machine(3);
            Check.due("beyond it", 0, g.walk(1));
            Check.due("beyond it, up", 0, g.foot(e[0], 0));
            Check.due("beyond it, lifting is paid for", energy - 1, g.machine(3));
            Check.due("beyond it, next", 0, g.machine(11));
            Check.due("beyond it, stands", 1, g.machine(2));
        }
    }

    /** From a corner of the ground each way that leads beyond. */
    private static void endsBeyondTheCorners() {
        Check.part("ending early, beyond the corners");
        // leg, and the body's way that brings the corner in reach
        int[][] corners = {{0, -1, -1}, {1, 0, -1}, {2, 0, 0}, {3, -1, 0}};
        for (int[] c : corners) {
            int x = c[0] == 0 || c[0] == 3 ? 0 : 19;
            int y = c[0] < 2 ? 0 : 19;
            for (int way = 0; way < 9; way++) {
                int toX = x + way % 3 - 1;
                int toY = y + way / 3 - 1;
                Gaitwright g = ready();
                g.load(20, -2 * c[1], -2 * c[2]);
                if (c[1] != 0 || c[2] != 0) {
                    Check.due("shifts", 0, g.shift(c[1], c[2]));
                }
                g.lift(c[0]);
                Check.due("in the corner", 0, g.place(c[0], x, y));
                g.phase(c[0], way % 3 - 1, way / 3 - 1, 0, 0);
                boolean isPoint = toX >= 0 && toX <= 19 && toY >= 0 && toY <= 19;
                String name = "from " + x + ", " + y + " to " + toX + ", " + toY;
                int energy = g.machine(3);
                Check.due(name, isPoint ? 1 : 0, g.walk(1));
                Check.due(name + ", down", isPoint ? 1 : 0, g.foot(c[0], 0));
                if (isPoint) {
                    at(name, g, c[0], toX, toY);
                } else {
                    Check.due(name + ", lifting is paid for", energy - 1, g.machine(3));
                }
            }
        }
    }

    /** Each cause for which shifting is refused: the foot stays where it came, the phase is next. */
    private static void endsAtShifting() {
        Check.part("ending early, at shifting");
        Gaitwright hull = Build.standing(2, 6);
        hull.phase(0, 0, 0, 1, 0);
        Check.due("onto the edge, and not beyond", 2, hull.walk(20));
        body("onto the edge", hull, 12, 10);
        at("the foot is placed again", hull, 0, 8, 8);
        Check.due("next", 0, hull.machine(11));
        Check.due("paid for the third step as well", 980 - 3 - 4 - 4, hull.machine(3));
        Gaitwright reach = Build.wide(1);
        reach.place(4, 10, 10);
        reach.phase(4, 0, 1, 0, -1);
        Check.due("out of reach of its own foot then", 0, reach.walk(1));
        at("placed", reach, 4, 10, 11);
        body("not shifted", reach, 10, 10);
        Check.due("next", 0, reach.machine(11));
        Gaitwright points = Build.walker(1, 0);
        for (int i = 0; i < 9; i++) {
            points.walk(5);
        }
        points.halt();
        points.load(10, -2, 0);
        points.phase(0, 0, 0, 1, 0);
        Check.due("the body beyond all points", 0, points.walk(1));
        body("stays", points, 19, 10);
        Check.due("the foot is down again", 1, points.foot(0, 0));
    }

    private static void endsByLifting() {
        Check.part("ending early, by what breaks as it lifts");
        Gaitwright g = Build.lying(2, 3);
        g.leg(0, 0, 3);
        g.ground(8, 8, 0, 2, 9);
        g.rise();
        g.phase(4, 1, 0, 0, 0);
        Check.due("10 by 4 is 3: foot 0 sinks", 0, g.walk(20));
        Check.due("foot 0 is up", 0, g.foot(0, 0));
        Check.due("foot 4 is not placed", 0, g.foot(4, 0));
        Check.due("one was broken", 1, g.machine(8));
        Check.due("lifting is paid for", 979, g.machine(3));
        Check.due("next", 0, g.machine(11));
        Check.due("stands", 1, g.machine(2));
    }

    private static void endsByPlacing() {
        Check.part("ending early, by what breaks as it places");
        Gaitwright stumble = ready();
        stumble.ground(11, 10, 2, 99, 9);
        stumble.phase(4, 1, 0, 0, 1);
        brokenAt("stumbling", stumble, NONE, NONE);
        Gaitwright slip = ready();
        slip.ground(11, 10, 1, 99, 0);
        slip.ground(11, 9, 0, 99, 9);
        slip.phase(4, 1, 0, 0, 1);
        brokenAt("slipping", slip, 11, 9);
        Check.due("down it goes on from there", 1, slip.walk(1));
        at("from there", slip, 4, 12, 9);
        body("and shifts then", slip, 10, 11);
        Gaitwright sink = ready();
        sink.ground(11, 10, 0, 1, 9);
        sink.phase(4, 1, 0, 0, 1);
        brokenAt("sinking", sink, NONE, NONE);
        Gaitwright holds = ready();
        holds.ground(11, 10, 1, 2, 1);
        holds.phase(4, 1, 0, 0, 1);
        Check.due("what just holds is done", 1, holds.walk(1));
        body("and shifts", holds, 10, 11);
    }

    private static void brokenAt(String what, Gaitwright g, int x, int y) {
        int energy = g.machine(3);
        Check.due(what, 0, g.walk(20));
        at(what, g, 4, x, y);
        body(what + ", not shifted", g, 10, 10);
        Check.due(what + ", next", 0, g.machine(11));
        Check.due(what + ", one was broken", 1, g.machine(8));
        Check.due(what + ", lifting and placing are paid for", energy - 3, g.machine(3));
    }

    private static void endsByFalling() {
        Check.part("ending early, by falling");
        Gaitwright g = Build.lying(2, 3);
        g.ground(12, 12, 0, 3, 9);
        g.ground(8, 12, 0, 3, 9);
        g.rise();
        g.phase(0, 0, 0, 0, 0);
        g.phase(1, 0, 0, 0, 0);
        Check.due("10 by 3 is 4: two sink, and it falls", 0, g.walk(20));
        Check.due("lies", 0, g.machine(2));
        Check.due("one fall", 1, g.machine(9));
        Check.due("next", 0, g.machine(11));
        Check.due("lying it walks no more", 0, g.walk(20));
        Check.due("lifting is paid for once", 979, g.machine(3));
        g.ground(12, 12, 0, 99, 9);
        g.ground(8, 12, 0, 99, 9);
        g.rise();
        Check.due("risen it goes on with the same", 2, g.walk(2));
        Check.due("next", 0, g.machine(11));
    }

    private static void lying() {
        Check.part("a gait of a machine that lies");
        Scene scene = () -> {
            Gaitwright g = Build.lying(2, 3);
            g.phase(0, 0, 0, 0, 0);
            g.phase(1, 0, 0, 0, 0);
            return g;
        };
        Check.due("none is done", 0, scene.make().walk(20));
        Picture.same("nothing changes", Picture.of(scene), Picture.of(scene.with(g -> g.walk(20))));
    }

    private static void halting() {
        Check.part("halting");
        Gaitwright g = ready();
        for (int i = 0; i < 3; i++) {
            g.phase(4, i == 0 ? 1 : i == 1 ? -1 : 0, 0, 0, 0);
        }
        g.walk(2);
        Check.due("the third is next", 2, g.machine(11));
        Check.due("halt", 3, g.halt());
        Check.due("none is next", NONE, g.machine(11));
        Check.due("halt again", 0, g.halt());
        g.phase(4, 0, 2, 0, 0);
        Check.due("the first that is added is next", 0, g.machine(11));
        g.phase(4, 0, -2, 0, 0);
        Check.due("also as another comes", 0, g.machine(11));
        Check.due("and is done first", 1, g.walk(1));
        at("and is done first", g, 4, 10, 12);
        Check.due("then the other", 1, g.machine(11));
        Check.due("it stands", 1, g.machine(2));
        Gaitwright late = Build.lying(2, 3);
        Check.isIndex("no leg 4", () -> late.phase(4, 0, 0, 0, 0));
        late.leg(0, 0, 3);
        Check.due("a leg that has come later", 1, late.phase(4, 0, 0, 0, 0));
        late.rise();
        Check.due("walks", 1, late.walk(1));
    }
}

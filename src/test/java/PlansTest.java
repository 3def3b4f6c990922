/** The edges that 'Plans' in the document's terms names, and promises 21 to 24: footholds, what would be, moves. */
public final class PlansTest {
    private static final int NONE = -1;

    public static void main(String[] args) {
        footholdByCost();
        footholdOfTwo();
        footholdByOrder();
        footholdByLevel();
        footholdOfOthers();
        footholdOfItself();
        footholdAtTheEdges();
        footholdNone();
        wouldLift();
        wouldLiftAsLifted();
        fewestByShifts();
        fewestWhereItIs();
        fewestByTheHull();
        fewestByReach();
        fewestBySteps();
        fewestOfEachLeg();
        fewestWithoutStep();
        fewestOfThree();
        fewestLeavesAll();
        Check.end();
    }

    private static Gaitwright one(int reach) {
        Gaitwright g = new Gaitwright();
        g.leg(0, 0, reach);
        return g;
    }

    private static int at(int x, int y) {
        return 20 * y + x;
    }

    /** A point so far, and level, against the hip, which differs by so much: 10 times that is its cost. */
    private static void footholdByCost() {
        Check.part("foothold by cost");
        // All points in reach are mapped 2 but one, which is level.
        for (int reach = 1; reach <= 6; reach++) {
            for (int i = 0; i < 169; i++) {
                int x = i % 13 - 6;
                int y = i / 13 - 6;
                if (x * x + y * y <= reach * reach) {
                    Gaitwright g = one(reach);
                    mapAll(g, reach, 2);
                    Check.due("all the same, the hip", at(10, 10), g.foothold(0));
                    g.chart(10 + x, 10 + y, 0);
                    Check.due("20 is more than any far", at(10 + x, 10 + y), g.foothold(0));
                    mapAll(g, reach, 1);
                    g.chart(10 + x, 10 + y, 0);
                    Check.due("10 is more than any far", at(10 + x, 10 + y), g.foothold(0));
                }
            }
        }
        Gaitwright g = one(6);
        mapAll(g, 6, 2);
        g.chart(14, 14, 1);
        Check.due("18 against 20", at(14, 14), g.foothold(0));
        g.chart(13, 10, 1);
        Check.due("13 against 18", at(13, 10), g.foothold(0));
        g.chart(10, 8, 1);
        Check.due("12 against 13", at(10, 8), g.foothold(0));
        g.chart(11, 14, 0);
        Check.due("5 against 12", at(11, 14), g.foothold(0));
        g.chart(10, 9, 1);
        Check.due("5 against 11", at(11, 14), g.foothold(0));
        g.chart(10, 10, 1);
        Check.due("5 against 10", at(11, 14), g.foothold(0));
        g.chart(10, 10, 0);
        Check.due("0 against 5", at(10, 10), g.foothold(0));
    }

    private static void mapAll(Gaitwright g, int reach, int mapped) {
        for (int i = 0; i < 169; i++) {
            int x = i % 13 - 6;
            int y = i / 13 - 6;
            if (x * x + y * y <= reach * reach) {
                g.chart(10 + x, 10 + y, mapped);
            }
        }
    }

    /** Two points are left in reach: the one of less cost, or of several the one of less y, then x. */
    private static void footholdOfTwo() {
        Check.part("foothold of two");
        int[][] ways = {{0, 0}, {0, -1}, {1, 0}, {-2, 0}, {1, -1}, {0, 3}, {2, 1}, {-2, -2}, {3, -2}, {-3, 3}, {0, 6},
            {4, 4}, {-5, 3}, {5, -3}, {6, 0}, {0, -6}, {-4, -4}};
        for (int[] a : ways) {
            Gaitwright g = one(6);
            mapAll(g, 6, 3);
            for (int[] b : ways) {
                for (int i = 0; i < 3 && a != b; i++) {
                    ofTwo(g, a, b, i, 0);
                    ofTwo(g, a, b, i, 1);
                }
            }
        }
    }

    private static void ofTwo(Gaitwright g, int[] a, int[] b, int mappedA, int mappedB) {
        int costA = 10 * mappedA + Math.abs(a[0]) + Math.abs(a[1]);
        int costB = 10 * mappedB + Math.abs(b[0]) + Math.abs(b[1]);
        int atA = at(10 + a[0], 10 + a[1]);
        int atB = at(10 + b[0], 10 + b[1]);
        boolean isFirst = costA < costB || costA == costB && atA < atB;
        g.chart(10 + a[0], 10 + a[1], mappedA);
        g.chart(10 + b[0], 10 + b[1], mappedB);
        Check.due("cost " + costA + " at " + atA + ", " + costB + " at " + atB, isFirst ? atA : atB, g.foothold(0));
        g.chart(10 + b[0], 10 + b[1], 3);
    }

    /** Points of the same cost are taken one by one in the order of y, then x. */
    private static void footholdByOrder() {
        Check.part("foothold by order");
        for (int reach = 1; reach <= 6; reach++) {
            Gaitwright g = one(reach);
            for (int far = 0; far <= 8; far++) {
                for (int i = 0; i < 169; i++) {
                    int x = i % 13 - 6;
                    int y = i / 13 - 6;
                    if (Math.abs(x) + Math.abs(y) == far && x * x + y * y <= reach * reach) {
                        Check.due("far " + far + ", reach " + reach, at(10 + x, 10 + y), g.foothold(0));
                        g.chart(10 + x, 10 + y, 3);
                    }
                }
            }
            Check.due("none is left, reach " + reach, NONE, g.foothold(0));
        }
    }

    /** Each level, and each mapped height of the hip, against the point beside it, which is level. */
    private static void footholdByLevel() {
        Check.part("foothold by level");
        for (int i = 0; i < 100; i++) {
            int level = i / 10;
            int mapped = i % 10;
            Gaitwright g = Build.wide(1);
            g.chart(15, 15, level);
            for (int[] n : new int[][] {{10, 9}, {9, 10}, {11, 10}, {10, 11}}) {
                g.chart(n[0], n[1], level < 5 ? 9 : 0);
            }
            g.chart(10, 10, mapped);
            boolean isDue = Math.abs(mapped - level) <= 2;
            int beside = Math.abs((level < 5 ? 9 : 0) - level);
            Check.due("level " + level + ", beside by " + beside, true, beside >= 3);
            Check.due("level " + level + ", mapped " + mapped, isDue ? at(10, 10) : NONE, g.foothold(4));
            g.ground(10, 10, 9 - mapped, 0, 0);
            Check.due("the ground is no matter", isDue ? at(10, 10) : NONE, g.foothold(4));
        }
    }

    private static void footholdOfOthers() {
        Check.part("foothold, where other feet are");
        Gaitwright g = Build.withFreeFoot();
        g.place(4, 10, 10);
        Check.due("leg 4, its own", at(10, 10), g.foothold(4));
        Gaitwright row = Build.withHips(3, -1, 0, 0, 0, 1, 0);
        row.rise();
        row.shift(1, 0);
        Check.due("its hip is at foot 1, beside it by the least y", at(10, 9), row.foothold(0));
        Check.due("its hip is at foot 2", at(11, 9), row.foothold(1));
        Check.due("its hip is free", at(12, 10), row.foothold(2));
        row.lift(0);
        Check.due("where its foot was", at(9, 10), leftOf(row));
        Gaitwright lying = Build.withHips(3, -1, 0, 0, 0, 1, 0);
        for (int leg = 0; leg < 3; leg++) {
            Check.due("lying, the hip", at(9 + leg, 10), lying.foothold(leg));
        }
    }

    /** The foothold of leg 0, whose hip is at foot 1, with all beside it mapped too high but where it was. */
    private static int leftOf(Gaitwright g) {
        g.chart(10, 9, 3);
        g.chart(10, 11, 3);
        return g.foothold(0);
    }

    /** As if its foot was up: its own point is free, and its own height is no level. */
    private static void footholdOfItself() {
        Check.part("foothold, as if its foot was up");
        Gaitwright g = Build.standing(2, 3);
        for (int leg = 0; leg < 4; leg++) {
            int x = 10 + 2 * Build.sideX(leg);
            int y = 10 + 2 * Build.sideY(leg);
            Check.due("its own point", at(x, y), g.foothold(leg));
            g.chart(x, y, 2);
            Check.due("its own height: level 0, 20 against 1", at(x, y - 1), g.foothold(leg));
            int other = leg == 0 ? 1 : 0;
            Check.due("for another the level is 2", leg == 0 ? at(12, 8) : at(8, 8), g.foothold(other));
            g.chart(x, y, 3);
            Check.due("for another the level is 3: none", NONE, g.foothold(other));
            g.chart(x, y, 0);
        }
        Check.due("asked, it is down", 4, g.machine(7));
    }

    /** In the corners of the ground hips are points, and so are none of those in reach that would be beyond. */
    private static void footholdAtTheEdges() {
        Check.part("foothold at the edges");
        // Hips 5 out of the body at (10, 10), reach 6: to the corner are 5 and 5, or 4 and 4.
        Gaitwright g = Build.lying(5, 6);
        int[][] corners = {{5, 5}, {15, 5}, {15, 15}, {5, 15}};
        for (int leg = 0; leg < 4; leg++) {
            int hipX = corners[leg][0];
            int hipY = corners[leg][1];
            for (int i = 0; i < 169; i++) {
                int x = hipX + i % 13 - 6;
                int y = hipY + i / 13 - 6;
                boolean isPoint = x >= 0 && x <= 19 && y >= 0 && y <= 19;
                if (isPoint && (x - hipX) * (x - hipX) + (y - hipY) * (y - hipY) <= 36) {
                    g.chart(x, y, 9);
                }
            }
            Check.due("none is left", NONE, g.foothold(leg));
        }
        Gaitwright edge = Build.walker(-1, 0);
        for (int i = 0; i < 10; i++) {
            edge.walk(5);
        }
        Check.due("body x", 0, edge.machine(0));
        for (int leg = 0; leg < 5; leg++) {
            Check.due("at its hip on the edge", at(edge.foot(leg, 1), edge.foot(leg, 2)), edge.foothold(leg));
        }
        edge.lift(0);
        edge.chart(0, 12, 3);
        Check.due("above is a foot, and to the left no point: to the right", at(1, 12), edge.foothold(0));
        edge.chart(1, 12, 3);
        Check.due("then below", at(0, 13), edge.foothold(0));
    }

    private static void footholdNone() {
        Check.part("no foothold");
        Gaitwright g = one(1);
        int[][] five = {{10, 9}, {9, 10}, {10, 10}, {11, 10}, {10, 11}};
        for (int[] p : five) {
            Check.due("one is left", true, g.foothold(0) != NONE);
            g.chart(p[0], p[1], 3);
        }
        Check.due("none is left", NONE, g.foothold(0));
        for (int[] p : five) {
            g.chart(p[0], p[1], 2);
            Check.due("2 is not too much", at(p[0], p[1]), g.foothold(0));
            g.chart(p[0], p[1], 9);
        }
        Check.due("none is left", NONE, g.foothold(0));
    }

    private static void wouldLift() {
        Check.part("what would be");
        // 20 by 5 is 4, by 4 is 5, by 3 is 7, by 2 is 10.
        int[][] runs = {{99, 99, 99, 0}, {5, 5, 5, 0}, {4, 5, 5, 2}, {4, 6, 99, 2}, {4, 99, 99, 1}, {4, 4, 99, 2},
            {99, 4, 4, 2}, {4, 7, 7, 1}, {4, 6, 9, 2}, {99, 99, 4, 1}, {4, 4, 4, 2}};
        for (int[] r : runs) {
            String name = java.util.Arrays.toString(r);
            Scene scene = () -> softFour(r);
            Gaitwright g = scene.make();
            Check.due(name, r[3], g.wouldLift(4));
            Picture.same(name + " changes nothing", Picture.of(scene), Picture.of(scene.with(m -> m.wouldLift(4))));
            Check.due(name + ", lifted", r[3] == 0 ? 0 : 2, g.lift(4));
            Check.due(name + ", stands then", r[3] == 2 ? 0 : 1, g.machine(2));
        }
        Gaitwright lying = Build.lying(2, 3);
        for (int leg = 0; leg < 4; leg++) {
            Check.due("lying", NONE, lying.wouldLift(leg));
        }
    }

    /** Five feet, that of leg 4 under the body, a load of 10; the points of legs 0 to 2 are as firm as told. */
    private static Gaitwright softFour(int[] firmness) {
        Gaitwright g = Build.lying(2, 3);
        g.leg(0, 0, 3);
        for (int leg = 0; leg < 3; leg++) {
            g.ground(10 + 2 * Build.sideX(leg), 10 + 2 * Build.sideY(leg), 1, firmness[leg], 9);
        }
        g.rise();
        Check.due("nothing breaks yet", 0, g.load(10, 0, 0));
        Check.due("five are down", 5, g.machine(7));
        return g;
    }

    /** For each way to soften: what would be is what is, then. */
    private static void wouldLiftAsLifted() {
        Check.part("what would be, as it is then");
        for (int i = 0; i < 625; i++) {
            int[] firm = {4 + i / 125 * 2, 4 + i / 25 % 5 * 2, 4 + i / 5 % 5 * 2};
            Gaitwright g = softFour(firm);
            int leg = i % 5;
            int would = g.wouldLift(leg);
            String answer = Check.answerOf(() -> g.lift(leg));
            int is = answer.startsWith("throws.") ? NONE : answer.equals("0") ? 0 : g.machine(2) == 1 ? 1 : 2;
            Check.due("leg " + leg + " of " + java.util.Arrays.toString(firm), is, would);
        }
    }

    /** Ahead of each the way to another point is asked for, so that neither answer can rest on the one before. */
    private static void both(String what, int due, Gaitwright g, int x, int y) {
        g.fewest(19 - x, 19 - y);
        Check.due(what, due, g.fewest(x, y));
        g.fewest(19 - x, 19 - y);
        Check.due(what + ", anew", due, g.fewestAnew(x, y));
    }

    /** On wide ground: as many as x and y differ, together, up to 3. */
    private static void fewestByShifts() {
        Check.part("fewest, by shifts");
        for (int i = 0; i < 121; i++) {
            int x = i % 11 - 5;
            int y = i / 11 - 5;
            int far = Math.abs(x) + Math.abs(y);
            both("by " + x + ", " + y, far <= 3 ? far : NONE, Build.standing(5, 6), 10 + x, 10 + y);
        }
    }

    private static void fewestWhereItIs() {
        Check.part("fewest, where it is");
        Gaitwright lying = Build.lying(2, 3);
        both("lying", NONE, lying, 10, 10);
        both("lying, beside", NONE, lying, 11, 10);
        lying.rise();
        both("standing", 0, lying, 10, 10);
        lying.shift(1, 1);
        both("where it was", 2, lying, 10, 10);
        both("where it is", 0, lying, 11, 11);
        Gaitwright fallen = Build.withHips(3, 0, 0);
        fallen.ground(10, 10, 0, 9, 9);
        fallen.rise();
        both("fallen", NONE, fallen, 10, 10);
        Gaitwright point = Build.withHips(3, 0, 0);
        point.rise();
        both("on a point", 0, point, 10, 10);
        both("no way from a point", NONE, point, 10, 11);
    }

    private static void fewestByTheHull() {
        Check.part("fewest, by the hull");
        Gaitwright line = Build.withHips(6, -2, 0, 2, 0);
        line.rise();
        both("along the line", 1, line, 11, 10);
        both("to its end", 2, line, 12, 10);
        both("beyond its end", NONE, line, 13, 10);
        both("beside it", NONE, line, 10, 11);
        Gaitwright fraction = Build.standing(1, 6);
        both("to the edge", 1, fraction, 11, 10);
        fraction.load(1, 1, 0);
        both("beyond it by 1 of 11", NONE, fraction, 11, 10);
        both("short of it by as much", 1, fraction, 9, 10);
        fraction.load(1, 0, -1);
        both("the same in y", NONE, fraction, 10, 9);
        both("the same in y", 1, fraction, 10, 11);
        // A line aslant: a shift is in x alone or in y alone, so there is no way along it.
        Gaitwright aslant = Build.withHips(6, -2, -2, 2, 2);
        aslant.rise();
        both("aslant", NONE, aslant, 11, 11);
        Check.due("but it can be shifted so", 0, aslant.shift(1, 1));
        both("back there is no way either", NONE, aslant, 10, 10);
    }

    private static void fewestByReach() {
        Check.part("fewest, by reach");
        Gaitwright g = Build.withHips(1, -3, -3, 3, -3, 3, 3, -3, 3);
        g.rise();
        both("just in reach", 1, g, 11, 10);
        both("just out of reach, and no foot can be missed", NONE, g, 12, 10);
        both("aslant", NONE, g, 11, 11);
        // Leg 4 alone is short: it can step after the body.
        Gaitwright five = Build.wide(1);
        both("up it is no matter", 2, five, 12, 10);
        both("up it is no matter", 3, five, 13, 10);
        five.place(4, 10, 10);
        both("down it steps once", 3, five, 12, 10);
        both("and again takes too many", NONE, five, 13, 10);
        both("one is in reach", 1, five, 10, 9);
        both("aslant takes a step as well", 3, five, 11, 9);
    }

    /** A step of a leg comes to its foothold, and to no other point. */
    private static void fewestBySteps() {
        Check.part("fewest, by steps");
        // On a line along x, with leg 2 up: its foothold beside the line makes the way to its side.
        for (int side = -1; side <= 1; side += 2) {
            Gaitwright g = Build.withHips(2, -2, 0, 2, 0, 0, side);
            g.rise();
            both("down", 1, g, 10, 10 + side);
            g.lift(2);
            both("up", 2, g, 10, 10 + side);
            both("up, to the other side", NONE, g, 10, 10 - side);
            g.chart(10, 10 + side, 3);
            g.chart(9, 10 + side, 3);
            g.chart(11, 10 + side, 3);
            g.chart(9, 10 + 2 * side, 3);
            g.chart(11, 10 + 2 * side, 3);
            g.chart(10, 10 + 2 * side, 3);
            g.chart(10, 10 + 3 * side, 3);
            g.chart(8, 10 + side, 3);
            g.chart(12, 10 + side, 3);
            both("its foothold is on the line", NONE, g, 10, 10 + side);
            g.chart(10, 10 + 3 * side, 2);
            both("20 and 2 against 1", NONE, g, 10, 10 + side);
            g.chart(10, 10, 3);
            g.chart(9, 10, 3);
            g.chart(11, 10, 3);
            both("it is on the other side", 2, g, 10, 10 - side);
            both("it is on the other side", NONE, g, 10, 10 + side);
            g.chart(10, 10 - side, 3);
            both("the one that is left", 2, g, 10, 10 + side);
            g.chart(10, 10 + 3 * side, 3);
            both("no foothold, no step", NONE, g, 10, 10 + side);
        }
        // The foothold is that of where the body is by then: a shift, a step, and a shift.
        Gaitwright way = Build.wide(1);
        way.place(4, 11, 10);
        both("away from its foot, a step first", 2, way, 9, 10);
        both("two from it, two steps", NONE, way, 8, 10);
        both("towards it", 1, way, 11, 10);
        both("over it", 2, way, 12, 10);
        both("and a step more", NONE, way, 13, 10);
    }

    /** Six legs, one of which, each in turn, is short and at the body: it has to step before a second shift. */
    private static void fewestOfEachLeg() {
        Check.part("fewest, a step of each leg");
        int[][] hips = {{-3, -3}, {3, -3}, {3, 3}, {-3, 3}, {0, -3}};
        for (int leg = 0; leg < 6; leg++) {
            Gaitwright g = new Gaitwright();
            for (int i = 0; i < 6; i++) {
                int[] hip = i < leg ? hips[i] : i > leg ? hips[i - 1] : new int[] {0, 0};
                g.leg(hip[0], hip[1], i == leg ? 1 : 6);
            }
            g.rise();
            both("a shift", 1, g, 10, 11);
            both("two, and a step of leg " + leg, 3, g, 10, 12);
            both("three, and two steps", NONE, g, 10, 13);
        }
    }

    /** A step that may not be: the machine is not stable without the foot, or there is no foothold for it. */
    private static void fewestWithoutStep() {
        Check.part("fewest, no step");
        // Legs 1 and 3 hold the body on their line; leg 0 is short, and needed on the one side of that.
        Gaitwright g = new Gaitwright();
        g.leg(-2, -2, 1);
        g.leg(2, -2, 5);
        g.leg(2, 2, 5);
        g.leg(-2, 2, 5);
        g.rise();
        both("stable without it: shift, step, shift", 3, g, 12, 10);
        both("not stable without it", NONE, g, 8, 10);
        g.load(1, -1, 0);
        both("at first not stable without it", 3, g, 12, 10);
        g.load(20, -1, -1);
        both("not stable without it where it would have to step", NONE, g, 12, 10);
        Gaitwright none = Build.wide(1);
        none.place(4, 10, 10);
        both("with a foothold", 3, none, 12, 10);
        for (int i = 0; i < 25; i++) {
            none.chart(8 + i % 5, 8 + i / 5, 3);
        }
        both("it has none, and so is not lifted", NONE, none, 12, 10);
        both("it has none, and is in reach", 1, none, 11, 10);
        none.chart(10, 9, 2);
        both("its foothold is out of reach then", NONE, none, 12, 10);
        none.chart(11, 10, 2);
        both("its foothold is in reach then", 3, none, 12, 10);
        none.lift(4);
        none.chart(11, 10, 3);
        none.chart(10, 9, 3);
        both("up it is no matter", 2, none, 12, 10);
    }

    /** Rows of three of which each one is needed, in each of the orders of steps and shifts. */
    private static void fewestOfThree() {
        Check.part("fewest, rows of three");
        Gaitwright twoSteps = Build.lying(5, 6);
        twoSteps.leg(0, 0, 1);
        twoSteps.leg(0, 1, 1);
        twoSteps.rise();
        both("two short legs are in reach once", 1, twoSteps, 11, 10);
        both("both would have to step", NONE, twoSteps, 12, 10);
        twoSteps.shift(1, 0);
        both("step, step, shift", 3, twoSteps, 12, 10);
        both("back none has to", 1, twoSteps, 10, 10);
        both("back twice none has to", 2, twoSteps, 9, 10);
        both("back three times both have to", NONE, twoSteps, 8, 10);
        twoSteps.lift(4);
        both("step, shift, with one up", 2, twoSteps, 12, 10);
        both("aslant it would have to step twice", NONE, twoSteps, 12, 9);
        twoSteps.lift(5);
        both("with both up", 1, twoSteps, 12, 10);
        both("with both up, three", 3, twoSteps, 14, 10);
        both("with both up, four", NONE, twoSteps, 15, 10);
    }

    private static void fewestLeavesAll() {
        Check.part("plans change nothing, and need no energy");
        Scene scene = () -> Build.poor(0);
        Gaitwright g = scene.make();
        both("without energy", 1, g, 11, 10);
        both("without energy", 3, g, 10, 7);
        both("without energy", NONE, g, 10, 6);
        Picture.same("changes nothing", Picture.of(scene),
                Picture.of(scene.with(m -> both("without energy", 3, m, 8, 9))));
        Gaitwright soft = Build.wide(6);
        for (int i = 0; i < 81; i++) {
            soft.ground(6 + i % 9, 6 + i / 9, 9, 0, 0);
        }
        both("on ground that would break", 3, soft, 12, 11);
        soft.load(20, 0, 0);
        both("with a load", 3, soft, 12, 11);
    }
}

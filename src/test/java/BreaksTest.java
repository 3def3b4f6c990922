/** The edges that 'What breaks' in the document's terms names: stumbling, slipping, sinking, falling. */
public final class BreaksTest {
    private static final int NONE = -1;
    private static final int STUMBLED = 1;
    private static final int SANK = 2;
    private static final int SLIPPED = 3;

    public static void main(String[] args) {
        stumbles();
        stumblingIsAll();
        slips();
        slipsToTheLeast();
        slipsToNeighboursAlone();
        slipsAtTheEdges();
        slipsByReach();
        slipsToFeet();
        slipsOntoHips();
        slipsOnce();
        sinksByFirmness();
        sinksByHeight();
        sinksInTurns();
        sinksInOrder();
        sinksBehindEachAct();
        standsOnWhatIsLeft();
        fallsByThirds();
        fallsByFractions();
        firstSinceItGotUp();
        toldOnce();
        telling();
        Check.end();
    }

    /** Foot 4 is up, the level is as told, and the four points round (10, 9) are 9 high. */
    private static Gaitwright at(int level, int height, int mapped, int grip) {
        Gaitwright g = Build.wide(6);
        g.chart(5, 5, level);
        g.ground(10, 9, height, 99, grip);
        g.chart(10, 9, mapped);
        g.ground(10, 8, 9, 99, 9);
        g.ground(9, 9, 9, 99, 9);
        g.ground(11, 9, 9, 99, 9);
        g.ground(10, 10, 9, 99, 9);
        return g;
    }

    private static void isUp(String what, Gaitwright g) {
        Check.due(what + ", up", 0, g.foot(4, 0));
        Check.due(what + ", no x", NONE, g.foot(4, 1));
        Check.due(what + ", no y", NONE, g.foot(4, 2));
    }

    private static void isDown(String what, Gaitwright g, int x, int y) {
        Check.due(what + ", down", 1, g.foot(4, 0));
        Check.due(what + ", x", x, g.foot(4, 1));
        Check.due(what + ", y", y, g.foot(4, 2));
    }

    /** Each height and each mapped height. */
    private static void stumbles() {
        Check.part("stumbling");
        for (int i = 0; i < 100; i++) {
            int height = i / 10;
            int mapped = i % 10;
            String name = "height " + height + ", mapped " + mapped;
            Gaitwright g = at(mapped, height, mapped, 9);
            boolean isDue = Math.abs(height - mapped) >= 2;
            Check.due(name, isDue ? STUMBLED : 0, g.place(4, 10, 9));
            if (isDue) {
                isUp(name, g);
            } else {
                isDown(name, g, 10, 9);
            }
            Check.due(name + ", mapped then", height, g.point(10, 9, 3));
            Check.due(name + ", the height stays", height, g.point(10, 9, 0));
            Check.due(name + ", how much", isDue ? 1 : 0, g.machine(8));
            Check.due(name + ", it is paid for", 977, g.machine(3));
            Check.due(name + ", stands", 1, g.machine(2));
        }
    }

    private static void stumblingIsAll() {
        Check.part("stumbling, and no slipping or sinking");
        Gaitwright g = at(4, 2, 4, 0);
        g.ground(10, 8, 0, 0, 0);
        g.chart(10, 8, 5);
        g.ground(10, 9, 2, 0, 0);
        Check.due("stumbles", STUMBLED, g.place(4, 10, 9));
        isUp("no more", g);
        Check.due("one was broken", 1, g.machine(8));
        Check.due("where it would have slipped stays as mapped", 5, g.point(10, 8, 3));
        Check.due("no sinking", 2, g.point(10, 9, 0));
        Check.due("again", SLIPPED, g.place(4, 10, 9));
    }

    /** Each height, each height of a neighbour, and each grip. */
    private static void slips() {
        Check.part("slipping");
        for (int i = 0; i < 1000; i++) {
            int height = i / 100;
            int lower = i / 10 % 10;
            int grip = i % 10;
            String name = "height " + height + ", beside it " + lower + ", grip " + grip;
            Gaitwright g = at(height, height, height, grip);
            g.ground(11, 9, lower, 99, 0);
            boolean isDue = height - lower > grip;
            Check.due(name, isDue ? SLIPPED : 0, g.place(4, 10, 9));
            isDown(name, g, isDue ? 11 : 10, 9);
            Check.due(name + ", mapped", height, g.point(10, 9, 3));
            Check.due(name + ", mapped there", isDue ? lower : 0, g.point(11, 9, 3));
            Check.due(name + ", how much", isDue ? 1 : 0, g.machine(8));
        }
    }

    /** Each row of heights 0 to 2 of the four neighbours, of which the one of least y, then x, is first. */
    private static void slipsToTheLeast() {
        Check.part("slipping to the least");
        int[] x = {10, 9, 11, 10};
        int[] y = {8, 9, 9, 10};
        for (int i = 0; i < 81; i++) {
            int[] heights = {i / 27, i / 9 % 3, i / 3 % 3, i % 3};
            String name = "neighbours " + java.util.Arrays.toString(heights);
            Gaitwright g = at(2, 2, 2, 0);
            int least = 2;
            int to = NONE;
            for (int n = 0; n < 4; n++) {
                g.ground(x[n], y[n], heights[n], 99, 0);
                if (heights[n] < least) {
                    least = heights[n];
                    to = n;
                }
            }
            Check.due(name, to == NONE ? 0 : SLIPPED, g.place(4, 10, 9));
            isDown(name, g, to == NONE ? 10 : x[to], to == NONE ? 9 : y[to]);
            for (int n = 0; n < 4; n++) {
                Check.due(name + ", mapped", n == to ? heights[n] : 0, g.point(x[n], y[n], 3));
            }
        }
    }

    private static void slipsToNeighboursAlone() {
        Check.part("slipping to neighbours alone");
        Gaitwright g = at(5, 5, 5, 0);
        int[][] others = {{9, 8}, {11, 8}, {9, 10}, {11, 10}, {10, 7}, {8, 9}, {12, 9}, {10, 11}};
        for (int[] other : others) {
            g.ground(other[0], other[1], 0, 0, 0);
        }
        Check.due("no neighbour is lower", 0, g.place(4, 10, 9));
        isDown("stays", g, 10, 9);
    }

    /**
     * Points at the edges and the corners of the ground, 3 high; the shift that brings them in reach, the leg,
     * and its neighbours. What would be beside them if a row went on into the next is low, and is no neighbour.
     */
    private static void slipsAtTheEdges() {
        Check.part("slipping at the edges");
        // x, y, leg, body's way in x and y
        int[][] points = {{0, 6, 0, 0, 0}, {19, 6, 1, 0, 0}, {6, 0, 0, 0, 0}, {14, 19, 2, 0, 0}, {0, 14, 3, 0, 0},
            {19, 14, 2, 0, 0}, {0, 0, 0, -1, -1}, {19, 0, 1, 0, -1}, {19, 19, 2, 0, 0}, {0, 19, 3, -1, 0}};
        for (int[] p : points) {
            for (int low = NONE; low < 4; low++) {
                slipAtTheEdge(p, low);
            }
        }
    }

    private static void slipAtTheEdge(int[] p, int low) {
        int[] x = {p[0], p[0] - 1, p[0] + 1, p[0]};
        int[] y = {p[1] - 1, p[1], p[1], p[1] + 1};
        if (low != NONE && (x[low] < 0 || x[low] > 19 || y[low] < 0 || y[low] > 19)) {
            return;
        }
        Gaitwright g = Build.lying(5, 6);
        g.leg(0, 0, 6);
        for (int i = 0; i < 40; i++) {
            int along = i / 2;
            int edge = i % 2 * 19;
            g.ground(edge, along, 0, 99, 9);
            g.ground(along, edge, 0, 99, 9);
        }
        g.ground(p[0], p[1], 3, 99, 2);
        g.chart(p[0], p[1], 2);
        for (int n = 0; n < 4; n++) {
            if (x[n] >= 0 && x[n] <= 19 && y[n] >= 0 && y[n] <= 19) {
                g.ground(x[n], y[n], n == low ? 0 : 1, 99, 9);
            }
        }
        String name = "at " + p[0] + ", " + p[1] + ", low " + low;
        g.rise();
        if (p[3] != 0 || p[4] != 0) {
            Check.due(name + ", shifts", 0, g.shift(p[3], p[4]));
            g.load(20, -2 * p[3], -2 * p[4]);
        }
        g.lift(p[2]);
        Check.due(name, low == NONE ? 0 : SLIPPED, g.place(p[2], p[0], p[1]));
        boolean isIn = low == NONE || isInReach(g, p[2], x[low], y[low]);
        Check.due(name + ", down", isIn ? 1 : 0, g.foot(p[2], 0));
        Check.due(name + ", x", !isIn ? NONE : low == NONE ? p[0] : x[low], g.foot(p[2], 1));
        Check.due(name + ", y", !isIn ? NONE : low == NONE ? p[1] : y[low], g.foot(p[2], 2));
    }

    /** Whether a point is in reach, 6, of a leg whose hip is 5 out. */
    private static boolean isInReach(Gaitwright g, int leg, int x, int y) {
        int byX = x - g.machine(0) - 5 * Build.sideX(leg);
        int byY = y - g.machine(1) - 5 * Build.sideY(leg);
        return byX * byX + byY * byY <= 36;
    }

    /** From each point in reach each way: down if that is in reach, up otherwise; mapped in both cases. */
    private static void slipsByReach() {
        Check.part("slipping, by reach");
        int[][] ways = {{0, -1}, {-1, 0}, {1, 0}, {0, 1}};
        for (int reach = 1; reach <= 6; reach++) {
            for (int i = 0; i < 169; i++) {
                int x = i % 13 - 6;
                int y = i / 13 - 6;
                for (int[] way : ways) {
                    if (x * x + y * y <= reach * reach) {
                        slipByReach(reach, x, y, way);
                    }
                }
            }
        }
    }

    private static void slipByReach(int reach, int x, int y, int[] way) {
        String name = "reach " + reach + ", at " + x + ", " + y + ", to " + way[0] + ", " + way[1];
        Gaitwright g = Build.wide(reach);
        g.ground(10 + x, 10 + y, 1, 99, 0);
        for (int[] n : new int[][] {{0, -1}, {-1, 0}, {1, 0}, {0, 1}}) {
            g.ground(10 + x + n[0], 10 + y + n[1], 1, 99, 9);
        }
        int toX = x + way[0];
        int toY = y + way[1];
        g.ground(10 + toX, 10 + toY, 0, 99, 9);
        g.chart(10 + toX, 10 + toY, 9);
        Check.due(name, SLIPPED, g.place(4, 10 + x, 10 + y));
        if (toX * toX + toY * toY <= reach * reach) {
            isDown(name, g, 10 + toX, 10 + toY);
        } else {
            isUp(name, g);
        }
        Check.due(name + ", mapped", 1, g.point(10 + x, 10 + y, 3));
        Check.due(name + ", mapped there", 0, g.point(10 + toX, 10 + toY, 3));
        Check.due(name + ", how much", 1, g.machine(8));
    }

    private static void slipsToFeet() {
        Check.part("slipping to where a foot is");
        // The four feet at (5, 5), (15, 5), (15, 15) and (5, 15), from beside them.
        for (int leg = 0; leg < 4; leg++) {
            int x = 10 + 5 * Build.sideX(leg);
            int y = 10 + 5 * Build.sideY(leg);
            int besideX = x < 10 ? x + 1 : x - 1;
            Gaitwright g = Build.lying(5, 6);
            g.leg(0, 0, 6);
            g.chart(besideX, y, 1);
            g.rise();
            g.lift(4);
            g.ground(besideX, y, 1, 99, 0);
            g.ground(besideX, y - 1, 1, 99, 0);
            g.ground(besideX, y + 1, 1, 99, 0);
            g.ground(x < 10 ? besideX + 1 : besideX - 1, y, 1, 99, 0);
            // The hip of leg 4 is at the body: 4 and 5 away, which is 41, so the body comes nearer first.
            Check.due("nearer", 0, g.shift(x < 10 ? -1 : 1, y < 10 ? -1 : 1));
            g.chart(x, y, 2);
            Check.due("slips to foot " + leg, SLIPPED, g.place(4, besideX, y));
            isUp("foot " + leg + " is there", g);
            Check.due("which stays down", 1, g.foot(leg, 0));
            Check.due("mapped there too", 0, g.point(x, y, 3));
            Check.due("how much", 1, g.machine(8));
        }
    }

    /**
     * As it rises: a leg, each in turn, slips to the hip of another, each in turn. That one stays up, if it comes
     * later, and nothing is broken by that; if it is there first, the one that slips is up.
     */
    private static void slipsOntoHips() {
        Check.part("slipping to a hip as it rises");
        for (int i = 0; i < 25; i++) {
            int slipping = i % 5;
            int other = i / 5;
            if (slipping != other) {
                String name = "leg " + slipping + " to the hip of leg " + other;
                int isDown = Math.min(slipping, other);
                hipTaken(name, slopeOfHips(slipping, other, 0), isDown, slipping + other - isDown, 1);
                // Mapped 2 too high the hip makes the other one stumble, if that comes first, and is free then.
                hipTaken(name + ", stumbling", slopeOfHips(slipping, other, 2), slipping, other,
                        other < slipping ? 2 : 1);
            }
        }
    }

    private static void hipTaken(String name, Gaitwright g, int isDown, int isUp, int broken) {
        Check.due(name + ", down", 4, g.rise());
        Check.due(name + ", x", 8, g.foot(isDown, 1));
        Check.due(name + ", y", 9, g.foot(isDown, 2));
        Check.due(name + ", the other is up", 0, g.foot(isUp, 0));
        Check.due(name + ", broken", broken, g.machine(8));
        Check.due(name + ", mapped", 0, g.point(8, 9, 3));
        Check.due(name + ", cost", 980, g.machine(3));
    }

    /** Five hips, of which the one at (8, 8) is high and slippery, and the one at (8, 9) mapped as told. */
    private static Gaitwright slopeOfHips(int slipping, int other, int mapped) {
        int[][] rest = {{2, -2}, {2, 2}, {-2, 2}};
        int next = 0;
        Gaitwright g = new Gaitwright();
        for (int leg = 0; leg < 5; leg++) {
            int[] hip = leg == slipping ? new int[] {-2, -2} : leg == other ? new int[] {-2, -1} : rest[next];
            next += leg == slipping || leg == other ? 0 : 1;
            g.leg(hip[0], hip[1], 3);
        }
        g.ground(8, 8, 2, 99, 1);
        g.chart(8, 8, 2);
        g.ground(8, 7, 2, 99, 9);
        g.ground(7, 8, 2, 99, 9);
        g.ground(9, 8, 2, 99, 9);
        g.chart(8, 9, mapped);
        return g;
    }

    private static void slipsOnce() {
        Check.part("slipping once, and no stumbling there");
        Gaitwright g = at(9, 9, 9, 0);
        g.ground(10, 8, 4, 99, 0);
        g.chart(10, 8, 9);
        g.ground(10, 7, 0, 99, 0);
        g.chart(10, 7, 7);
        Check.due("slips", SLIPPED, g.place(4, 10, 9));
        isDown("no further", g, 10, 8);
        Check.due("one was broken", 1, g.machine(8));
        Check.due("mapped", 4, g.point(10, 8, 3));
        Check.due("not mapped", 7, g.point(10, 7, 3));
        Gaitwright soft = at(9, 9, 9, 0);
        soft.ground(10, 8, 4, 1, 0);
        Check.due("slips, and sinks there", SLIPPED, soft.place(4, 10, 9));
        isUp("sunk", soft);
        Check.due("two were broken", 2, soft.machine(8));
        Check.due("the ground gives way there", 3, soft.point(10, 8, 0));
        Check.due("and is mapped", 3, soft.point(10, 8, 3));
        Check.due("not where it slipped", 9, soft.point(10, 9, 0));
        Gaitwright from = at(9, 9, 9, 0);
        from.ground(10, 9, 9, 0, 0);
        from.ground(10, 8, 4, 99, 0);
        Check.due("slips off soft ground", SLIPPED, from.place(4, 10, 9));
        isDown("and holds", from, 10, 8);
        Check.due("one was broken", 1, from.machine(8));
    }

    /** Foot 4 is placed on ground of a firmness: by each load, just enough and one too little. */
    private static void sinksByFirmness() {
        Check.part("sinking by firmness");
        for (int load = 0; load <= 20; load++) {
            int pressure = (10 + load + 4) / 5;
            for (int firmness : new int[] {0, pressure - 1, pressure, pressure + 1, 99}) {
                String name = "load " + load + ", firmness " + firmness;
                Gaitwright g = Build.wide(6);
                g.load(load, 0, 0);
                g.ground(10, 9, 1, firmness, 9);
                boolean isDue = firmness < pressure;
                Check.due(name, isDue ? SANK : 0, g.place(4, 10, 9));
                if (isDue) {
                    isUp(name, g);
                } else {
                    isDown(name, g, 10, 9);
                }
                Check.due(name + ", height", isDue ? 0 : 1, g.point(10, 9, 0));
                Check.due(name + ", mapped", isDue ? 0 : 1, g.point(10, 9, 3));
                Check.due(name + ", firmness stays", firmness, g.point(10, 9, 1));
                Check.due(name + ", how much", isDue ? 1 : 0, g.machine(8));
            }
        }
        Gaitwright one = Build.withHips(3, 0, 0);
        one.ground(10, 10, 0, 29, 9);
        one.load(19, 0, 0);
        Check.due("29 holds 29", 1, one.rise());
        Check.due("30 is too much", SANK, one.load(20, 0, 0));
        Check.due("lies", 0, one.machine(2));
        one.ground(10, 10, 0, 30, 9);
        Check.due("30 holds the most that there is", 1, one.rise());
    }

    private static void sinksByHeight() {
        Check.part("sinking, 1 lower, but at least 0");
        for (int height = 0; height <= 9; height++) {
            Gaitwright g = Build.wide(6);
            g.chart(5, 5, height);
            g.ground(10, 9, height, 0, 9);
            g.chart(10, 9, height);
            for (int times = 1; times <= 3; times++) {
                int due = Math.max(0, height - times);
                Check.due("sinks", SANK, g.place(4, 10, 9));
                Check.due("height " + height + ", time " + times, due, g.point(10, 9, 0));
                Check.due("mapped " + height + ", time " + times, due, g.point(10, 9, 3));
                g.chart(5, 5, due);
            }
            Check.due("three were broken", 3, g.machine(8));
        }
        // What is told of the map meanwhile is no matter.
        Gaitwright told = Build.lying(2, 3);
        told.ground(8, 8, 5, 4, 9);
        told.chart(8, 8, 5);
        told.chart(12, 8, 3);
        told.chart(12, 12, 3);
        told.chart(8, 12, 3);
        for (int i = 1; i < 4; i++) {
            told.ground(10 + 2 * Build.sideX(i), 10 + 2 * Build.sideY(i), 3, 99, 9);
        }
        Check.due("four rise", 4, told.rise());
        told.chart(8, 8, 9);
        Check.due("sinks", SANK, told.load(10, 0, 0));
        Check.due("from 5 to 4", 4, told.point(8, 8, 0));
        Check.due("mapped so", 4, told.point(8, 8, 3));
        Gaitwright off = Build.wide(6);
        off.ground(10, 9, 1, 0, 9);
        Check.due("mapped 0, 1 high", SANK, off.place(4, 10, 9));
        Check.due("0 high", 0, off.point(10, 9, 0));
        Check.due("mapped 0", 0, off.point(10, 9, 3));
    }

    /** Six feet, that of leg 5 under the body, with these firmnesses, and a load of 20 as it stands. */
    private static Gaitwright six(int... firmness) {
        Gaitwright g = Build.withHips(3, -2, -2, 2, -2, 2, 2, -2, 2, 0, 1, 0, 0);
        int[] x = {8, 12, 12, 8, 10, 10};
        int[] y = {8, 8, 12, 12, 11, 10};
        for (int leg = 0; leg < 6; leg++) {
            g.ground(x[leg], y[leg], 1, firmness[leg], 9);
        }
        g.rise();
        Check.due("six are down", 6, g.machine(7));
        g.load(20, 0, 0);
        return g;
    }

    /** A load of 20 makes 30 by 6 is 5, by 5 is 6, by 4 is 8, by 3 is 10, by 2 is 15, and 30 on one foot. */
    private static void sinksInTurns() {
        Check.part("sinking in turns");
        int[][] runs = {
            {5, 5, 5, 5, 5, 5, 6, 0}, {4, 6, 6, 6, 6, 6, 5, 1}, {4, 5, 8, 8, 8, 8, 4, 2}, {4, 5, 7, 10, 10, 10, 3, 3},
            {4, 5, 7, 9, 15, 15, 2, 4}, {4, 5, 7, 9, 14, 30, 1, 5}, {4, 5, 7, 9, 14, 29, 0, 6},
            {4, 4, 8, 8, 8, 8, 4, 2}, {4, 4, 4, 10, 10, 10, 3, 3}, {4, 4, 4, 9, 15, 15, 2, 4},
            {4, 4, 4, 4, 4, 30, 1, 5}, {4, 4, 4, 4, 4, 4, 0, 6}};
        for (int[] r : runs) {
            String name = java.util.Arrays.toString(r);
            Gaitwright g = six(r);
            Check.due(name + ", down", r[6], g.machine(7));
            Check.due(name + ", broken", r[7], g.machine(8));
            Check.due(name + ", stands", r[6] > 0 ? 1 : 0, g.machine(2));
            Check.due(name + ", falls", r[6] > 0 ? 0 : 1, g.machine(9));
            int[] x = {8, 12, 12, 8, 10, 10};
            int[] y = {8, 8, 12, 12, 11, 10};
            for (int leg = 0; leg < 6; leg++) {
                boolean isSunk = leg < r[7];
                Check.due(name + ", foot " + leg, isSunk ? 0 : 1, g.foot(leg, 0));
                Check.due(name + ", ground " + leg, isSunk ? 0 : 1, g.point(x[leg], y[leg], 0));
            }
            if (r[6] == 0) {
                Check.due(name + ", none was down as it fell", 4, g.fall(0, 0));
                Check.due(name + ", sank", SANK, g.fall(0, 1));
                Check.due(name + ", first x", 8, g.fall(0, 2));
                Check.due(name + ", first y", 8, g.fall(0, 3));
            }
        }
    }

    /** The first is that of the first turn, and in a turn that of the least leg. */
    private static void sinksInOrder() {
        Check.part("sinking in the order of legs");
        // firmness of six, and the leg whose point is the first
        int[][] runs = {{29, 14, 9, 7, 5, 4, 5}, {5, 4, 4, 4, 4, 4, 1}, {5, 5, 5, 5, 4, 4, 4}, {7, 7, 4, 7, 4, 9, 2},
            {29, 14, 9, 4, 7, 5, 3}, {4, 29, 14, 9, 7, 5, 0}};
        int[] x = {8, 12, 12, 8, 10, 10};
        int[] y = {8, 8, 12, 12, 11, 10};
        for (int[] r : runs) {
            String name = java.util.Arrays.toString(r);
            Gaitwright g = six(r);
            Check.due(name + ", fell", 1, g.machine(9));
            Check.due(name + ", broken", 6, g.machine(8));
            Check.due(name + ", first x", x[r[6]], g.fall(0, 2));
            Check.due(name + ", first y", y[r[6]], g.fall(0, 3));
        }
    }

    private static void sinksBehindEachAct() {
        Check.part("sinking behind each act");
        Gaitwright rise = Build.lying(2, 3);
        rise.ground(8, 8, 0, 2, 9);
        Check.due("rise", 3, rise.rise());
        Check.due("rise, broken", 1, rise.machine(8));
        Gaitwright lift = Build.lying(2, 3);
        lift.ground(12, 12, 0, 3, 9);
        lift.rise();
        Check.due("lift", SANK, lift.lift(1));
        Gaitwright place = Build.wide(6);
        place.ground(10, 10, 0, 1, 9);
        Check.due("place", SANK, place.place(4, 10, 10));
        Gaitwright load = Build.lying(2, 3);
        load.ground(8, 8, 0, 3, 9);
        load.rise();
        Check.due("just not", 0, load.load(2, 0, 0));
        Check.due("load", SANK, load.load(3, 0, 0));
        Gaitwright lying = Build.lying(2, 3);
        lying.ground(8, 8, 5, 0, 9);
        Check.due("a load, lying", 0, lying.load(20, 0, 0));
        Check.due("no sinking, lying", 5, lying.point(8, 8, 0));
        Check.due("nothing was broken, lying", 0, lying.machine(8));
        Check.due("no fall, lying", 0, lying.machine(9));
    }

    /** Behind sinking: stable on the edge that is left, on the corner, and not beside it. */
    private static void standsOnWhatIsLeft() {
        Check.part("standing on what is left");
        for (int way = -1; way <= 1; way++) {
            Gaitwright g = Build.lying(2, 3);
            g.ground(8, 8, 0, 4, 9);
            g.rise();
            g.load(1, way, way);
            Check.due("11 by 4 is 3", 0, g.machine(8));
            Check.due("sinks", SANK, g.load(20, way, way));
            // The line from (12, 8) to (8, 12) goes through the body.
            Check.due("stands, by " + way, way >= 0 ? 1 : 0, g.machine(2));
            Check.due("down, by " + way, way >= 0 ? 3 : 0, g.machine(7));
            Check.due("falls, by " + way, way >= 0 ? 0 : 1, g.machine(9));
        }
        Gaitwright fell = Build.lying(2, 3);
        fell.ground(8, 8, 0, 2, 9);
        fell.ground(12, 8, 0, 2, 9);
        fell.rise();
        Check.due("all feet are up, those too that did not sink", 0, fell.machine(7));
        for (int leg = 0; leg < 4; leg++) {
            Check.due("foot " + leg, 0, fell.foot(leg, 0));
        }
        Check.due("the points that held stay", 0, fell.point(12, 12, 0));
    }

    /** Three feet are left, their middle a third beside the moment, in x, in y, or in both. */
    private static void fallsByThirds() {
        Check.part("directions, by thirds of the middle");
        int[][] along = {{1, -3, 0, 1, 0, 2, -2, 0}, {-3, 1, 1, 0, 2, 0, 0, -2}, {-1, 2, 1, 0, 1, -1, -2, -2}};
        for (int[] feet : along) {
            for (int turn = 0; turn < 4; turn++) {
                int signX = turn % 2 * 2 - 1;
                int signY = turn / 2 * 2 - 1;
                int[] hips = feet.clone();
                int sumX = 0;
                int sumY = 0;
                for (int i = 0; i < 8; i += 2) {
                    hips[i] *= signX;
                    hips[i + 1] *= signY;
                    sumX += i < 6 ? hips[i] : 0;
                    sumY += i < 6 ? hips[i + 1] : 0;
                }
                Gaitwright g = Build.withHips(3, hips);
                g.ground(10 + hips[6], 10 + hips[7], 0, 2, 9);
                Check.due("falls", 0, g.rise());
                Check.due("fell", 1, g.machine(9));
                Check.due("direction, the middle by " + sumX + ", " + sumY + " thirds",
                        3 * (1 - sumX) + 1 - sumY, g.fall(0, 0));
            }
        }
    }

    /** One foot is left, and the moment is beside it by 1 of 11, in x, in y, or in both. */
    private static void fallsByFractions() {
        Check.part("directions, by fractions of the moment");
        for (int way = 0; way < 9; way++) {
            int x = way % 3 - 1;
            int y = way / 3 - 1;
            Gaitwright g = Build.withHips(3, 0, 0, -2, -2, 2, -2, 2, 2, -2, 2);
            for (int i = 0; i < 4; i++) {
                g.ground(10 + 2 * Build.sideX(i), 10 + 2 * Build.sideY(i), 0, 2, 9);
            }
            Check.due("10 by 5 is 2", 5, g.rise());
            Check.due("11 by 5 is 3", SANK, g.load(1, x, y));
            Check.due("broken", 4, g.machine(8));
            boolean isOver = x == 0 && y == 0;
            Check.due("falls by " + x + ", " + y, isOver ? 0 : 1, g.machine(9));
            if (!isOver) {
                Check.due("direction by " + x + ", " + y, 3 * (x + 1) + y + 1, g.fall(0, 0));
            }
        }
    }

    private static void firstSinceItGotUp() {
        Check.part("the first since it got up");
        // A stumble as it rises, one by placing, and then a fall by a load: the first counts.
        Gaitwright g = Build.lying(2, 3);
        g.leg(0, 0, 3);
        g.ground(8, 8, 5, 99, 9);
        g.ground(10, 10, 3, 99, 9);
        g.ground(12, 12, 0, 4, 9);
        g.ground(8, 12, 0, 4, 9);
        Check.due("two stumble", 3, g.rise());
        Check.due("two were broken", 2, g.machine(8));
        g.ground(10, 9, 2, 99, 9);
        Check.due("stumbles", STUMBLED, g.place(4, 10, 9));
        Check.due("three were broken", 3, g.machine(8));
        Check.due("falls by sinking", SANK, g.load(20, 0, 0));
        Check.due("fell", 1, g.machine(9));
        Check.due("five were broken, also behind the fall", 5, g.machine(8));
        Check.due("first stumbled", STUMBLED, g.fall(0, 1));
        Check.due("first x", 8, g.fall(0, 2));
        Check.due("first y", 8, g.fall(0, 3));
        g.load(0, 0, 0);
        for (int i = 0; i < 4; i++) {
            g.ground(10 + 2 * Build.sideX(i), 10 + 2 * Build.sideY(i), 0, Build.sideY(i) < 0 ? 99 : 1, 9);
            g.chart(10 + 2 * Build.sideX(i), 10 + 2 * Build.sideY(i), 0);
        }
        g.ground(10, 10, 0, 99, 9);
        g.chart(10, 10, 0);
        Check.due("what was broken is forgotten as it rises", 3, g.rise());
        Check.due("two sank", 2, g.machine(8));
        Check.due("the first fall stays", STUMBLED, g.fall(0, 1));
        Gaitwright whole = Build.lying(2, 3);
        whole.ground(8, 8, 5, 99, 9);
        whole.rise();
        whole.ground(9, 9, 5, 99, 9);
        whole.place(0, 9, 9);
        Check.due("two", 2, whole.machine(8));
        Check.due("a refused rise forgets nothing", "throws.IllegalStateException",
                Check.answerOf(whole::rise));
        Check.due("still two", 2, whole.machine(8));
    }

    /** An act tells what it has broken itself, and nothing of what was broken before. */
    private static void toldOnce() {
        Check.part("each act tells of its own");
        Picture.Act[] acts = {g -> g.shift(1, 0), g -> g.lift(0), g -> g.load(3, 0, 0), g -> g.place(4, 10, 10)};
        for (Picture.Act act : acts) {
            Gaitwright stumbled = at(0, 2, 0, 9);
            stumbled.ground(10, 10, 0, 99, 9);
            Check.due("stumbles", STUMBLED, stumbled.place(4, 10, 9));
            Check.due("nothing more", 0, act.on(stumbled));
            Check.due("one was broken", 1, stumbled.machine(8));
            Gaitwright sunk = Build.wide(6);
            sunk.ground(10, 9, 0, 1, 9);
            Check.due("sinks", SANK, sunk.place(4, 10, 9));
            Check.due("nothing more", 0, act.on(sunk));
            Check.due("one was broken", 1, sunk.machine(8));
        }
        Gaitwright risen = Build.lying(2, 3);
        risen.ground(8, 8, 2, 99, 9);
        Check.due("stumbles as it rises", 3, risen.rise());
        Check.due("nothing more", 0, risen.shift(1, 1));
        Gaitwright fallen = Build.lying(2, 3);
        for (int i = 0; i < 4; i++) {
            fallen.ground(10 + 2 * Build.sideX(i), 10 + 2 * Build.sideY(i), 0, 3, 9);
        }
        fallen.rise();
        Check.due("falls", SANK, fallen.load(10, 0, 0));
        Check.due("lying nothing more", 0, fallen.load(20, 0, 0));
        Check.due("four were broken", 4, fallen.machine(8));
    }

    /** To tell of the ground, or of the map, is no act: nothing stumbles, slips, sinks or falls by it. */
    private static void telling() {
        Check.part("telling is no act");
        Gaitwright g = Build.standing(2, 3);
        for (int leg = 0; leg < 4; leg++) {
            int x = 10 + 2 * Build.sideX(leg);
            int y = 10 + 2 * Build.sideY(leg);
            Check.due("the map under a foot", 0, g.chart(x, y, 9));
            for (int[] n : new int[][] {{0, -1}, {-1, 0}, {1, 0}, {0, 1}}) {
                g.ground(x + n[0], y + n[1], 0, 0, 0);
            }
            Check.due("down", 1, g.foot(leg, 0));
            Check.due("the height stays", 0, g.point(x, y, 0));
            Check.due("the map stays as told", 9, g.point(x, y, 3));
        }
        Check.due("nothing was broken", 0, g.machine(8));
        Check.due("nothing was paid", 980, g.machine(3));
        Check.due("the level follows the map", 9, g.machine(5));
        g.ground(3, 3, 7, 99, 9);
        Check.due("the map stays as the ground is told", 0, g.point(3, 3, 3));
        g.chart(3, 3, 4);
        Check.due("the ground stays as the map is told", 7, g.point(3, 3, 0));
        g.ground(3, 3, 1, 1, 1);
        Check.due("the map stays once more", 4, g.point(3, 3, 3));
        Check.due("the next act breaks nothing either", 0, g.lift(0));
    }
}

import java.util.ArrayList;
import java.util.List;

/**
 * All that can be seen of a machine. It is looked at in parts, each on an object of its own: an object is
 * meant for 512 calls, and the ground alone takes 1600. A scene may take some 300 calls of that.
 */
final class Picture {
    interface Act {
        long on(Gaitwright g);
    }

    private static final class Part {
        private final Gaitwright g;
        private final List<String> lines;

        Part(Scene scene, List<String> lines) {
            g = scene.make();
            this.lines = lines;
        }

        void see(String call, Act act) {
            lines.add(call + " = " + Check.answerOf(() -> act.on(g)));
        }
    }

    private Picture() { }

    static List<String> of(Scene scene) {
        List<String> lines = new ArrayList<>();
        seeMachine(new Part(scene, lines));
        seeFalls(new Part(scene, lines));
        for (int what = 0; what < 4; what++) {
            seeGround(new Part(scene, lines), what, 0);
            seeGround(new Part(scene, lines), what, 10);
        }
        seePlans(new Part(scene, lines));
        seeGait(new Part(scene, lines));
        seeRising(new Part(scene, lines));
        return lines;
    }

    /** That a call throws this, and that behind it all is as if it had not been. */
    static void unchanged(String what, Class<? extends RuntimeException> due, Scene scene, Act act) {
        unchanged(what, due, scene, of(scene), act);
    }

    /** The same, with the picture of the scene at hand. */
    static void unchanged(String what, Class<? extends RuntimeException> due, Scene scene, List<String> before,
            Act act) {
        Gaitwright once = scene.make();
        Check.isThrown(what, due, () -> act.on(once));
        same(what + " changes nothing", before, of(scene.with(g -> Check.answerOf(() -> act.on(g)))));
    }

    static void same(String what, List<String> due, List<String> got) {
        for (int i = 0; i < due.size() && i < got.size(); i++) {
            if (!due.get(i).equals(got.get(i))) {
                Check.due(what, due.get(i), got.get(i));
                return;
            }
        }
        Check.due(what, due.size(), got.size());
    }

    private static void seeMachine(Part part) {
        for (int i = 0; i <= 11; i++) {
            int what = i;
            part.see("machine(" + what + ")", g -> g.machine(what));
        }
        for (int i = 0; i < 6; i++) {
            int leg = i;
            seeFoot(part, leg);
            part.see("foothold(" + leg + ")", g -> g.foothold(leg));
            part.see("wouldLift(" + leg + ")", g -> g.wouldLift(leg));
        }
        part.see("isStable()", g -> g.isStable() ? 1 : 0);
        part.see("isStableAnew()", g -> g.isStableAnew() ? 1 : 0);
        part.see("margin()", Gaitwright::margin);
        for (int i = 0; i <= 6; i++) {
            int corner = i;
            part.see("corner(" + corner + ")", g -> g.corner(corner));
        }
    }

    private static void seeFoot(Part part, int leg) {
        part.see("foot(" + leg + ", 1)", g -> g.foot(leg, 1));
        part.see("foot(" + leg + ", 2)", g -> g.foot(leg, 2));
    }

    private static void seeFalls(Part part) {
        for (int i = 0; i < 160; i++) {
            int fall = i / 4;
            int what = i % 4;
            part.see("fall(" + fall + ", " + what + ")", g -> g.fall(fall, what));
        }
    }

    private static void seeGround(Part part, int what, int fromY) {
        for (int i = 0; i < 200; i++) {
            int x = i % 20;
            int y = fromY + i / 20;
            part.see("point(" + x + ", " + y + ", " + what + ")", g -> g.point(x, y, what));
        }
    }

    private static void seePlans(Part part) {
        for (int[] way : new int[][] {{0, 0}, {1, 0}, {-1, -1}, {0, 3}}) {
            part.see("fewest by " + way[0] + ", " + way[1],
                    g -> g.fewest(g.machine(0) + way[0], g.machine(1) + way[1]));
        }
        part.see("fewestAnew", g -> g.fewestAnew(g.machine(0), g.machine(1) - 1));
    }

    /** All phases done one by one, and the first one again, and how many there were. */
    private static void seeGait(Part part) {
        for (int i = 0; i < 9; i++) {
            part.see("walk(1)", g -> g.walk(1));
            part.see("next", g -> g.machine(11));
            part.see("body x", g -> g.machine(0));
            part.see("body y", g -> g.machine(1));
            part.see("energy", g -> g.machine(3));
            for (int leg = 0; leg < 6; leg++) {
                seeFoot(part, leg);
            }
        }
        part.see("halt()", Gaitwright::halt);
    }

    /** Where the load is shows in a machine that lies as it gets up. */
    private static void seeRising(Part part) {
        part.see("rise()", Gaitwright::rise);
        part.see("stands", g -> g.machine(2));
        part.see("margin()", Gaitwright::margin);
        part.see("broken", g -> g.machine(8));
        for (int leg = 0; leg < 6; leg++) {
            seeFoot(part, leg);
        }
    }
}

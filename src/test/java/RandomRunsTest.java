import java.util.ArrayList;
import java.util.List;
import java.util.Random;

/**
 * Runs of 512 calls, made up from fixed seeds, each on a new object; each answer is compared with that of
 * the Model. Most arguments are likely ones, so that the machine walks and falls; some are beyond all sense.
 */
public final class RandomRunsTest {
    private static final int CALLS = 512;
    private static final int[] WILD = {Integer.MIN_VALUE, Integer.MAX_VALUE, -1, 0, 1, 20, -7, 40, 1001, 1 << 16, 400};

    private final Random random;
    private final Gaitwright program = new Gaitwright();
    private final Model model = new Model();
    private final List<String> told = new ArrayList<>();
    /** How rough the ground of this run is, 0 to 3: level and firm in runs of 0. */
    private final int rough;
    /** Where the body mostly goes in this run, so that some come to the edges of the ground. */
    private final int driftX;
    private final int driftY;
    private final List<Integer> hipX = new ArrayList<>();
    private final List<Integer> hipY = new ArrayList<>();
    private boolean isEqual = true;

    private RandomRunsTest(long seed) {
        random = new Random(seed);
        rough = random.nextInt(4);
        driftX = random.nextInt(3) - 1;
        driftY = random.nextInt(3) - 1;
    }

    public static void main(String[] args) {
        int runs = args.length > 0 && args[0].matches("[0-9]{1,6}") ? Integer.parseInt(args[0]) : 400;
        Check.part("random runs");
        for (int run = 0; run < runs; run++) {
            RandomRunsTest test = new RandomRunsTest(run);
            test.go();
            Check.due("run " + run, true, test.isEqual);
        }
        Check.end();
    }

    private void go() {
        begin();
        while (told.size() < CALLS && isEqual) {
            if (random.nextInt(100) < 55) {
                act();
            } else {
                look();
            }
        }
    }

    /** Compares one call; there are no more behind the 512th, from where on the document leaves all free. */
    private void same(String call, Check.Call ofProgram, Check.Call ofModel) {
        if (told.size() >= CALLS) {
            return;
        }
        String got = Check.answerOf(ofProgram);
        String want = Check.answerOf(ofModel);
        told.add(call + " -> " + got);
        if (isEqual && !got.equals(want)) {
            isEqual = false;
            System.out.println(String.join("\n", told) + "\n  due is " + want);
        }
    }

    private int near(int around, int by) {
        return wildOr(around + random.nextInt(2 * by + 1) - by);
    }

    private int upTo(int most) {
        return wildOr(random.nextInt(most + 1));
    }

    private int wildOr(int sensible) {
        return random.nextInt(150) == 0 ? WILD[random.nextInt(WILD.length)] : sensible;
    }

    private int anyLeg() {
        int legs = model.machine(10);
        return wildOr(random.nextInt(12) == 0 || legs == 0 ? random.nextInt(7) : random.nextInt(legs));
    }

    private int nearBodyX() {
        return near(model.machine(0), random.nextInt(4) == 0 ? 9 : 4);
    }

    private int nearBodyY() {
        return near(model.machine(1), random.nextInt(4) == 0 ? 9 : 4);
    }

    private void begin() {
        int legs = random.nextInt(8) == 0 ? 1 + random.nextInt(6) : 4 + random.nextInt(3);
        int out = 1 + random.nextInt(4);
        int reach = random.nextInt(3) == 0 ? 1 + random.nextInt(6) : 3 + random.nextInt(4);
        int[][] square = {{-out, -out}, {out, out}, {out, -out}, {-out, out}, {0, out}, {0, -out}};
        for (int i = 0; i < legs; i++) {
            if (random.nextInt(12) == 0) {
                leg(near(0, 5), near(0, 5), 1 + upTo(5));
            } else {
                leg(square[i][0], square[i][1], reach);
            }
        }
        for (int i = 0; i < 25 * rough; i++) {
            ground();
        }
        rise();
        if (random.nextInt(2) == 0) {
            gait();
        }
    }

    /** All legs in turn, and the body behind the last of them. */
    private void gait() {
        same("halt()", program::halt, model::halt);
        int legs = model.machine(10);
        for (int leg = 0; leg < legs; leg++) {
            boolean isLast = leg == legs - 1;
            phaseOf(leg, driftX, driftY, isLast ? driftX : 0, isLast ? driftY : 0);
        }
    }

    private int anyHeight() {
        return random.nextInt(3) > 0 ? upTo(1) : upTo(rough < 2 ? 2 : rough < 3 ? 4 : 9);
    }

    private int anyFirmness() {
        return rough == 0 || random.nextInt(2) > 0 ? 99 : 1 + upTo(8);
    }

    private int anyGrip() {
        return rough == 0 || random.nextInt(3) > 0 ? 9 : upTo(3);
    }

    private void ground() {
        int x = nearBodyX();
        int y = nearBodyY();
        int h = anyHeight();
        int f = anyFirmness();
        int g = anyGrip();
        same("ground(" + x + ", " + y + ", " + h + ", " + f + ", " + g + ")",
                () -> program.ground(x, y, h, f, g), () -> model.ground(x, y, h, f, g));
        if (random.nextInt(3) > 0) {
            chart(x, y, h);
        }
    }

    private void chart(int x, int y, int h) {
        same("chart(" + x + ", " + y + ", " + h + ")", () -> program.chart(x, y, h), () -> model.chart(x, y, h));
    }

    private void leg(int x, int y, int reach) {
        hipX.add(x);
        hipY.add(y);
        same("leg(" + x + ", " + y + ", " + reach + ")",
                () -> program.leg(x, y, reach), () -> model.leg(x, y, reach));
    }

    private void rise() {
        same("rise()", program::rise, model::rise);
    }

    private void phase() {
        int leg = anyLeg();
        int x = near(0, random.nextInt(3) == 0 ? 6 : 1);
        int y = near(0, random.nextInt(3) == 0 ? 6 : 1);
        phaseOf(leg, x, y, near(0, 1), near(0, 1));
    }

    private void phaseOf(int leg, int x, int y, int alongX, int alongY) {
        same("phase(" + leg + ", " + x + ", " + y + ", " + alongX + ", " + alongY + ")",
                () -> program.phase(leg, x, y, alongX, alongY), () -> model.phase(leg, x, y, alongX, alongY));
    }

    private void load() {
        int weight = upTo(20);
        int x = near(0, random.nextInt(3) == 0 ? 5 : 1);
        int y = near(0, random.nextInt(3) == 0 ? 5 : 1);
        same("load(" + weight + ", " + x + ", " + y + ")",
                () -> program.load(weight, x, y), () -> model.load(weight, x, y));
    }

    private void lift() {
        int leg = anyLeg();
        same("lift(" + leg + ")", () -> program.lift(leg), () -> model.lift(leg));
    }

    private void place() {
        int leg = anyLeg();
        boolean isUp = false;
        for (int i = 0; i < model.machine(10); i++) {
            if (random.nextInt(10) > 0 && model.foot(i, 0) == 0) {
                leg = i;
                isUp = true;
            }
        }
        if (isUp && random.nextInt(6) > 0) {
            placeOf(leg, near(model.machine(0) + hipX.get(leg), 2), near(model.machine(1) + hipY.get(leg), 2));
        } else if (random.nextInt(3) == 0) {
            placeOf(leg, nearBodyX(), nearBodyY());
        } else {
            shift();
        }
    }

    private void placeOf(int leg, int x, int y) {
        same("place(" + leg + ", " + x + ", " + y + ")",
                () -> program.place(leg, x, y), () -> model.place(leg, x, y));
    }

    private void shift() {
        int x = random.nextInt(3) == 0 ? near(0, 1) : driftX;
        int y = random.nextInt(3) == 0 ? near(0, 1) : driftY;
        same("shift(" + x + ", " + y + ")", () -> program.shift(x, y), () -> model.shift(x, y));
    }

    private void act() {
        int kind = random.nextInt(100);
        if (model.machine(2) == 0 && kind < 40) {
            comeUp();
        } else if (kind < 3) {
            charge();
        } else if (kind < 8) {
            ground();
        } else if (kind < 12) {
            chart(nearBodyX(), nearBodyY(), anyHeight());
        } else if (kind < 14) {
            leg(near(0, 5), near(0, 5), 1 + upTo(5));
        } else if (kind < 18) {
            phase();
        } else if (kind < 20) {
            gait();
        } else if (kind < 21) {
            same("halt()", program::halt, model::halt);
        } else if (kind < 28) {
            load();
        } else if (kind < 30) {
            rise();
        } else if (kind < 47) {
            lift();
        } else if (kind < 80) {
            place();
        } else if (kind < 90) {
            shift();
        } else {
            int phases = wildOr(1 + random.nextInt(random.nextInt(3) == 0 ? 21 : 4));
            same("walk(" + phases + ")", () -> program.walk(phases), () -> model.walk(phases));
        }
    }

    /** Lying: makes the map plain where it hinders, and the load light. */
    private void comeUp() {
        for (int i = 0; i < hipX.size() && i < model.machine(10); i++) {
            if (random.nextInt(3) == 0) {
                chart(model.machine(0) + hipX.get(i), model.machine(1) + hipY.get(i), upTo(1));
            }
        }
        if (random.nextInt(3) == 0) {
            same("load(0, 0, 0)", () -> program.load(0, 0, 0), () -> model.load(0, 0, 0));
        }
        if (model.machine(3) < 20 && random.nextInt(2) == 0) {
            charge();
        }
        rise();
    }

    private void charge() {
        int much = random.nextInt(2) == 0 ? upTo(30) : upTo(1000);
        same("charge(" + much + ")", () -> program.charge(much), () -> model.charge(much));
    }

    private void look() {
        int leg = anyLeg();
        int x = nearBodyX();
        int y = nearBodyY();
        int kind = random.nextInt(100);
        if (kind < 30) {
            int what = upTo(12);
            same("machine(" + what + ")", () -> program.machine(what), () -> model.machine(what));
        } else if (kind < 42) {
            int what = upTo(3);
            same("foot(" + leg + ", " + what + ")", () -> program.foot(leg, what), () -> model.foot(leg, what));
        } else if (kind < 52) {
            int what = upTo(4);
            same("point(" + x + ", " + y + ", " + what + ")",
                    () -> program.point(x, y, what), () -> model.point(x, y, what));
        } else if (kind < 62) {
            same("isStable()", () -> program.isStable() ? 1 : 0, () -> model.isStable() ? 1 : 0);
            same("isStableAnew()", () -> program.isStableAnew() ? 1 : 0, () -> model.isStable() ? 1 : 0);
        } else if (kind < 67) {
            same("margin()", program::margin, model::margin);
        } else if (kind < 75) {
            int corner = wildOr(random.nextInt(7));
            same("corner(" + corner + ")", () -> program.corner(corner), () -> model.corner(corner));
        } else if (kind < 82) {
            same("foothold(" + leg + ")", () -> program.foothold(leg), () -> model.foothold(leg));
        } else if (kind < 90) {
            same("wouldLift(" + leg + ")", () -> program.wouldLift(leg), () -> model.wouldLift(leg));
        } else if (kind < 97) {
            int fall = random.nextInt(4) == 0 ? upTo(45) : upTo(Math.max(0, model.machine(9) - 1));
            int what = upTo(4);
            same("fall(" + fall + ", " + what + ")", () -> program.fall(fall, what), () -> model.fall(fall, what));
        } else {
            plan();
        }
    }

    private void plan() {
        int x = near(model.machine(0), 2);
        int y = near(model.machine(1), 2);
        same("fewest(" + x + ", " + y + ")", () -> program.fewest(x, y), () -> model.fewest(x, y));
        same("fewestAnew(" + x + ", " + y + ")", () -> program.fewestAnew(x, y), () -> model.fewest(x, y));
    }
}

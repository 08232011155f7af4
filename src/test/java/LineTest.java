import java.util.Random;

/** Promises 21 to 24: ball, rider, right, foul. */
public final class LineTest {
    public static void main(String[] args) {
        Check check = new Check();
        wrongInputs(check);
        rights(check);
        fouls(check);
        extremes(check);
        againstPlainGeometry(check);
        check.finish("LineTest");
    }

    private static int ballOf(PoloSeason x, int... n) {
        x.ball(n[0], n[1], n[2], n[3]);
        return 0;
    }

    private static void wrongInputs(Check check) {
        PoloSeason x = new PoloSeason();
        check.argument("rider(0, 0, 0, 0, 0), no ball", () -> x.rider(0, 0, 0, 0, 0));
        check.state("rider(0, 0, 0, 1, 0), no ball", () -> x.rider(0, 0, 0, 1, 0));
        check.argument("ball(0, 0, 0, 0)", () -> ballOf(x, 0, 0, 0, 0));
        for (int place = 0; place < 4; place++) {
            for (int far : new int[] {-1001, 1001, Integer.MIN_VALUE, Integer.MAX_VALUE}) {
                int[] n = {1, 1, 1, 1};
                n[place] = far;
                check.argument("ball, " + far + " at " + place, () -> ballOf(x, n));
                check.argument("rider, " + far + " at " + place, () -> x.rider(1, n[0], n[1], n[2], n[3]));
            }
        }
        check.state("rider(0, 0, 0, 1, 0), still no ball", () -> x.rider(0, 0, 0, 1, 0));
        x.ball(-1000, 1000, -1000, 1000);
        check.argument("rider(-1, ..)", () -> x.rider(-1, 0, 0, 1, 0));
        check.argument("rider(2, ..)", () -> x.rider(2, 0, 0, 1, 0));
        for (int i = 0; i < 8; i++) {
            check.same("rider", x.rider(i % 2, 1000, -1000, 1000, -1000), i);
        }
        check.state("rider, the ninth", () -> x.rider(0, 0, 0, 1, 0));
        check.argument("rider(2, ..), the ninth", () -> x.rider(2, 0, 0, 1, 0));
        check.argument("ball(0, 0, 0, 0)", () -> ballOf(x, 0, 0, 0, 0));
        check.same("a wrong ball leaves the riders", x.count(8), 8);
        x.ball(0, 0, 0, 1);
        check.same("a ball takes the riders", x.count(8), 0);
        check.same("right()", x.right(), -1);
        check.same("rider", x.rider(0, 0, 0, 0, 1), 0);
    }

    private static void rights(Check check) {
        PoloSeason x = new PoloSeason();
        x.ball(0, 0, 0, 5);
        x.rider(0, 0, 0, 1, 0);
        x.rider(0, 0, 0, 0, -1);
        check.same("a right angle is not less than one", x.right(), -1);
        check.same("foul(0), nobody has right", x.foul(0), -1);
        x.rider(1, 50, 50, -1000, 1);
        check.same("hardly less than a right angle", x.right(), 2);
        x.rider(1, 50, 50, 1000, 2);
        check.same("a lesser angle", x.right(), 3);
        x.rider(0, 40, 51, -3, 3);
        x.rider(0, 30, 30, 7, 7);
        check.same("the nearest of an angle, to either hand", x.right(), 5);
        x.rider(1, -30, -30, 1, 1);
        check.same("the least number of the nearest", x.right(), 5);
        x.rider(1, 1000, 1000, 998, 999);
        check.same("the angle is before the distance", x.right(), 7);
    }

    private static void fouls(Check check) {
        PoloSeason x = new PoloSeason();
        x.ball(0, 0, 10, 0);
        x.rider(1, 0, 0, 10, 0);
        x.rider(0, 10, 0, 5, 1);
        x.rider(0, 11, 0, 5, 0);
        x.rider(1, 5, -5, 0, 10);
        x.rider(0, -9, 0, 9, 0);
        x.rider(0, 3, 4, 0, -4);
        x.rider(0, 3, 4, 0, -3);
        x.rider(0, 20, 0, -30, 0);
        check.same("right()", x.right(), 0);
        int[] due = {1, 4, 5, 7, -1};
        for (int k = 0; k < due.length; k++) {
            check.same("foul(" + k + ")", x.foul(k), due[k]);
        }
        check.same("foul(-1)", x.foul(-1), -1);
        check.same("foul(max)", x.foul(Integer.MAX_VALUE), -1);
        check.same("foul(min)", x.foul(Integer.MIN_VALUE), -1);
    }

    /** Angles that differ by less than a double's cosine tells, at the farthest numbers. */
    private static void extremes(Check check) {
        PoloSeason x = new PoloSeason();
        x.ball(-1000, -1000, 1000, 1000);
        x.rider(0, -1000, -1000, 998, 999);
        x.rider(1, 1000, 1000, 999, 1000);
        check.same("right(), 999:1000 above 998:999", x.right(), 1);
        x.rider(0, 1000, 1000, 1000, 1000);
        check.same("right(), along the ball", x.right(), 2);
        check.same("foul(0), at one point", x.foul(0), 1);
        x.ball(1000, 1000, -1000, -1000);
        x.rider(0, 1000, -1000, -1000, -1000);
        x.rider(1, -1000, 1000, 1000, 1000);
        check.same("right()", x.right(), 0);
        check.same("foul(0)", x.foul(0), -1);
    }

    private static void againstPlainGeometry(Check check) {
        Random random = new Random(7);
        for (int run = 0; run < 3000; run++) {
            int reach = run % 3 == 0 ? 2 : run % 3 == 1 ? 5 : 1000;
            PoloSeason x = new PoloSeason();
            int[] ball = way(random, reach);
            x.ball(ball[0], ball[1], ball[2], ball[3]);
            int[] sides = new int[8];
            int[][] riders = new int[8][];
            for (int i = 0; i < 8; i++) {
                sides[i] = random.nextInt(2);
                riders[i] = way(random, reach);
                x.rider(sides[i], riders[i][0], riders[i][1], riders[i][2], riders[i][3]);
            }
            int right = rightOf(ball, riders);
            check.same("run " + run + ": right()", x.right(), right);
            int k = 0;
            for (int i = 0; i < 8 && right >= 0; i++) {
                if (sides[i] != sides[right] && common(riders[right], riders[i])) {
                    check.same("run " + run + ": foul(" + k + ")", x.foul(k), i);
                    k++;
                }
            }
            check.same("run " + run + ": foul(" + k + ")", x.foul(k), -1);
        }
    }

    private static int[] way(Random random, int reach) {
        int[] n = new int[4];
        do {
            for (int i = 0; i < 4; i++) {
                n[i] = random.nextInt(2 * reach + 1) - reach;
            }
        } while (n[2] == 0 && n[3] == 0);
        return n;
    }

    private static int rightOf(int[] ball, int[][] riders) {
        int best = -1;
        for (int i = 0; i < riders.length; i++) {
            if (dot(ball, riders[i]) > 0 && (best < 0 || isBefore(ball, riders[i], riders[best]))) {
                best = i;
            }
        }
        return best;
    }

    /** By tangents: the cross product's size over the dot product. */
    private static boolean isBefore(int[] ball, int[] one, int[] other) {
        long a = Math.abs(cross(ball[2], ball[3], one[2], one[3])) * dot(ball, other);
        long b = Math.abs(cross(ball[2], ball[3], other[2], other[3])) * dot(ball, one);
        return a < b || a == b && distance(ball, one) < distance(ball, other);
    }

    private static long dot(int[] a, int[] b) {
        return (long) a[2] * b[2] + (long) a[3] * b[3];
    }

    private static long cross(long ax, long ay, long bx, long by) {
        return ax * by - ay * bx;
    }

    private static long distance(int[] a, int[] b) {
        long dx = a[0] - b[0];
        long dy = a[1] - b[1];
        return dx * dx + dy * dy;
    }

    /** One point in common: a + t * r = b + s * u with t and s from 0 to 1, by fractions. */
    private static boolean common(int[] a, int[] b) {
        long qx = b[0] - a[0];
        long qy = b[1] - a[1];
        long across = cross(a[2], a[3], b[2], b[3]);
        if (across != 0) {
            return isPart(cross(qx, qy, b[2], b[3]), across) && isPart(cross(qx, qy, a[2], a[3]), across);
        }
        if (cross(qx, qy, a[2], a[3]) != 0) {
            return false;
        }
        long length = dot(a, a);
        long start = qx * a[2] + qy * a[3];
        long end = start + dot(a, b);
        return Math.max(start, end) >= 0 && Math.min(start, end) <= length;
    }

    private static boolean isPart(long above, long below) {
        return below > 0 ? above >= 0 && above <= below : above <= 0 && above >= below;
    }
}

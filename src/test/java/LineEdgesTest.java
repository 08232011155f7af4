/** The boundary cases of promises 21 to 25 (ball, rider, right, foul, count), a method for each sentence that names one. */
public final class LineEdgesTest {
    private static final int[] BEYOND = {-1001, 1001, Integer.MIN_VALUE, Integer.MAX_VALUE};

    private final Check check = new Check();

    public static void main(String[] args) {
        LineEdgesTest test = new LineEdgesTest();
        test.numbersOfBall();
        test.ballThatStands();
        test.noRidersThen();
        test.side();
        test.numbersOfRider();
        test.riderThatStands();
        test.noBall();
        test.eightRiders();
        test.nobodyHasRight();
        test.lessThanARightAngle();
        test.leastAngle();
        test.nearest();
        test.leastNumber();
        test.otherSide();
        test.onePointInCommon();
        test.hardlyNone();
        test.onOneLine();
        test.theKth();
        test.countOfOthers();
        test.countsEmptyAndFull();
        test.check.finish("LineEdgesTest");
    }

    private static PoloSeason ball(int... numbers) {
        PoloSeason x = new PoloSeason();
        Seasons.ball(x, numbers);
        return x;
    }

    private static PoloSeason fewRiders() {
        PoloSeason x = ball(0, 0, 10, 0);
        x.rider(0, -5, 0, 10, 0);
        x.rider(1, 0, 5, 0, -10);
        return x;
    }

    /** The holder's stretch goes from (0, 0) to (10, 0); the other is of the other side and goes across or against. */
    private int foulOf(int... other) {
        PoloSeason x = ball(0, 0, 1, 0);
        x.rider(1, 0, 0, 10, 0);
        x.rider(0, other[0], other[1], other[2], other[3]);
        check.same("right()", x.right(), 0);
        return x.foul(0);
    }

    private static int rider(PoloSeason x, int side, int... n) {
        return x.rider(side, n[0], n[1], n[2], n[3]);
    }

    private void numbersOfBall() {
        check.about("21, IllegalArgumentException: numbers are not -1,000 to 1,000");
        for (int place = 0; place < 4; place++) {
            for (int edge : new int[] {-1000, -999, 999, 1000}) {
                int[] n = {1, 1, 1, 1};
                n[place] = edge;
                check.same("rider, ball with " + edge + " at " + place, ball(n).rider(0, 0, 0, 1, 1), 0);
            }
            for (int far : BEYOND) {
                int[] n = {1, 1, 1, 1};
                n[place] = far;
                check.argument("ball, " + far + " at " + place, PoloSeason::new, x -> Seasons.ball(x, n));
                check.argument("ball, " + far + " at " + place + ", riders", LineEdgesTest::fewRiders, x -> Seasons.ball(x, n));
            }
        }
        PoloSeason none = new PoloSeason();
        check.argument("ball(0, 0, 1001, 0)", () -> Seasons.ball(none, 0, 0, 1001, 0));
        check.state("rider: a refused ball is none", () -> none.rider(0, 0, 0, 1, 0));
    }

    private void ballThatStands() {
        check.about("21, IllegalArgumentException: (0, 0)");
        int[][] taken = {{0, 1}, {0, -1}, {1, 0}, {-1, 0}};
        for (int[] way : taken) {
            check.same("rider, ball going " + way[0] + ", " + way[1], ball(0, 0, way[0], way[1]).rider(0, 0, 0, way[0], way[1]), 0);
        }
        for (int at : new int[] {-1000, 0, 1000}) {
            check.argument("ball(.., 0, 0)", PoloSeason::new, x -> Seasons.ball(x, at, at, 0, 0));
            check.argument("ball(.., 0, 0), riders", LineEdgesTest::fewRiders, x -> Seasons.ball(x, at, at, 0, 0));
        }
        PoloSeason none = new PoloSeason();
        check.argument("ball(5, 5, 0, 0)", () -> Seasons.ball(none, 5, 5, 0, 0));
        check.state("rider: a refused ball is none", () -> none.rider(0, 0, 0, 1, 0));
    }

    private void noRidersThen() {
        check.about("21, the BALL (there are no RIDERS then)");
        PoloSeason x = fewRiders();
        check.same("foul(0), before", x.foul(0), 1);
        x.ball(0, 0, 10, 0);
        check.same("count(8)", x.count(8), 0);
        check.same("right()", x.right(), -1);
        check.same("foul(0)", x.foul(0), -1);
        check.same("rider, numbered from 0 on again", x.rider(1, 0, 0, 1, 0), 0);
        PoloSeason full = ball(0, 0, 1, 0);
        for (int i = 0; i < 8; i++) {
            full.rider(0, i, 0, 1, 0);
        }
        full.ball(0, 0, -1, 0);
        for (int i = 0; i < 8; i++) {
            check.same("rider, of a new ball", full.rider(0, i, 0, 1, 0), i);
        }
        check.same("right(), the new ball's way", full.right(), -1);
    }

    private void side() {
        check.about("22, IllegalArgumentException: the side");
        check.same("rider(0, ..)", ball(0, 0, 1, 0).rider(0, 0, 0, 1, 0), 0);
        check.same("rider(1, ..)", ball(0, 0, 1, 0).rider(1, 0, 0, 1, 0), 0);
        for (int side : new int[] {-1, 2, Integer.MIN_VALUE, Integer.MAX_VALUE}) {
            check.argument("rider(" + side + ", ..)", LineEdgesTest::fewRiders, x -> x.rider(side, 0, 0, 1, 0));
        }
    }

    private void numbersOfRider() {
        check.about("22, IllegalArgumentException: numbers are not -1,000 to 1,000");
        for (int place = 0; place < 4; place++) {
            for (int edge : new int[] {-1000, -999, 999, 1000}) {
                int[] n = {1, 1, 1, 1};
                n[place] = edge;
                check.same("rider, " + edge + " at " + place, rider(fewRiders(), 1, n), 2);
            }
            for (int far : BEYOND) {
                int[] n = {1, 1, 1, 1};
                n[place] = far;
                check.argument("rider, " + far + " at " + place, LineEdgesTest::fewRiders, x -> rider(x, 0, n));
                check.argument("rider, " + far + " at " + place + ", no ball", PoloSeason::new, x -> rider(x, 0, n));
            }
        }
    }

    private void riderThatStands() {
        check.about("22, IllegalArgumentException: (0, 0)");
        int[][] taken = {{0, 1}, {0, -1}, {1, 0}, {-1, 0}};
        for (int[] way : taken) {
            check.same("rider going " + way[0] + ", " + way[1], fewRiders().rider(0, 3, 3, way[0], way[1]), 2);
        }
        check.argument("rider(0, 3, 3, 0, 0)", LineEdgesTest::fewRiders, x -> x.rider(0, 3, 3, 0, 0));
        check.argument("rider(0, 0, 0, 0, 0)", LineEdgesTest::fewRiders, x -> x.rider(0, 0, 0, 0, 0));
    }

    private void noBall() {
        check.about("22, IllegalStateException: there is no BALL");
        check.state("rider(0, 0, 0, 1, 0)", PoloSeason::new, x -> x.rider(0, 0, 0, 1, 0));
        check.state("rider(1, 1000, 1000, 1000, 1000)", PoloSeason::new, x -> x.rider(1, 1000, 1000, 1000, 1000));
        check.argument("rider(2, ..)", PoloSeason::new, x -> x.rider(2, 0, 0, 1, 0));
        check.argument("rider(.., 0, 0)", PoloSeason::new, x -> x.rider(0, 0, 0, 0, 0));
    }

    private void eightRiders() {
        check.about("22, IllegalStateException: there are 8 RIDERS");
        for (int many = 0; many < 8; many++) {
            PoloSeason x = riders(many);
            check.same("rider, with " + many, x.rider(1, 0, 0, 1, 0), many);
            check.same("count(8)", x.count(8), many + 1);
        }
        check.state("rider, the ninth", () -> riders(8), x -> x.rider(0, 0, 0, 1, 0));
        check.argument("rider(2, ..), the ninth", () -> riders(8), x -> x.rider(2, 0, 0, 1, 0));
        check.argument("rider(.., 1001, ..), the ninth", () -> riders(8), x -> x.rider(0, 1001, 0, 1, 0));
        check.argument("rider(.., 0, 0), the ninth", () -> riders(8), x -> x.rider(0, 0, 0, 0, 0));
    }

    private static PoloSeason riders(int many) {
        PoloSeason x = ball(0, 0, 1, 0);
        for (int i = 0; i < many; i++) {
            x.rider(i % 2, i, i, 5, -1);
        }
        return x;
    }

    private void nobodyHasRight() {
        check.about("23, NONE: nobody");
        check.same("right(), no ball", new PoloSeason().right(), -1);
        check.same("right(), no riders", ball(0, 0, 1, 0).right(), -1);
        PoloSeason against = ball(0, 0, 1, 0);
        against.rider(0, 0, 0, -1, 0);
        against.rider(1, 0, 0, 0, 1);
        against.rider(1, 0, 0, 0, -1);
        against.rider(1, 0, 0, -1, 1000);
        check.same("right(), none along", against.right(), -1);
    }

    /** The ball goes each of eight ways; a rider turned by a right angle has none, one step less has it. */
    private void lessThanARightAngle() {
        check.about("23, an angle of less than a right one");
        int[][] ways = {{1000, 0}, {0, 1000}, {-1000, 0}, {0, -1000}, {999, 999}, {-999, 999}, {999, -999}, {-999, -999}};
        for (int[] way : ways) {
            for (int hand = -1; hand <= 1; hand += 2) {
                int dx = -way[1] * hand;
                int dy = way[0] * hand;
                int stepX = Integer.signum(way[0]);
                int stepY = Integer.signum(way[1]);
                check.same("a right angle", rightOf(way, dx, dy), -1);
                check.same("one more", rightOf(way, dx - stepX, dy - stepY), -1);
                check.same("one less", rightOf(way, dx + stepX, dy + stepY), 0);
            }
        }
    }

    private static int rightOf(int[] way, int dx, int dy) {
        PoloSeason x = ball(1000, -1000, way[0], way[1]);
        x.rider(0, -1000, 1000, dx, dy);
        return x.right();
    }

    private void leastAngle() {
        check.about("23, the one with the least such angle");
        PoloSeason x = ball(0, 0, 1000, 0);
        x.rider(0, 0, 0, 1, 1000);
        x.rider(0, 1000, 1000, 2, -1000);
        check.same("hardly less than a right one, to either hand", x.right(), 1);
        x.rider(1, 1000, 1000, 998, 1);
        x.rider(1, 1000, 1000, 999, -1);
        check.same("999:1 is less than 998:1", x.right(), 3);
        x.rider(0, 1000, 1000, 1000, 1);
        check.same("1000:1 is less than 999:1", x.right(), 4);
        x.rider(0, 1000, 1000, 1, 0);
        check.same("none at all", x.right(), 5);
        PoloSeason near = ball(0, 0, 1000, 999);
        near.rider(0, 0, 0, 998, 997);
        near.rider(0, 1000, 1000, 999, 998);
        check.same("999:998 is nearer to 1000:999", near.right(), 1);
        near.rider(0, 0, 0, 997, 996);
        check.same("997:996 is farther", near.right(), 1);
    }

    private void nearest() {
        check.about("23, of these the nearest to the BALL");
        PoloSeason x = ball(10, 10, 3, 4);
        x.rider(0, 1000, -1000, 6, 8);
        x.rider(1, 17, 10, 3, 4);
        check.same("as even, nearer", x.right(), 1);
        x.rider(0, 13, 16, 300, 400);
        check.same("45 is nearer than 49", x.right(), 2);
        x.rider(0, 10, 10, 750, 1000);
        check.same("at the ball", x.right(), 3);
        PoloSeason mirrored = ball(0, 0, 0, 1);
        mirrored.rider(0, 0, 6, 2, 5);
        mirrored.rider(1, 0, 5, -200, 500);
        check.same("as great an angle to the other hand", mirrored.right(), 1);
        int[][] sides = {{7, 3}, {-7, 3}, {7, -3}, {-7, -3}};
        for (int[] at : sides) {
            PoloSeason around = ball(at[0], at[1], 1, 0);
            around.rider(0, -at[0], at[1], 1, 0);
            around.rider(0, at[0], -at[1], 1, 0);
            check.same("from the ball, not from (0, 0): 6 before 14", around.right(), 1);
            around.rider(0, at[0] + 4, at[1] + 4, 1, 0);
            check.same("from the ball, not from (0, 0): 32 before 36", around.right(), 2);
        }
        PoloSeason farthest = ball(-1000, -1000, 1, 0);
        farthest.rider(0, 1000, 1000, 1, 0);
        farthest.rider(0, 1000, 999, 1, 0);
        check.same("the farthest there are", farthest.right(), 1);
    }

    private void leastNumber() {
        check.about("23, of these the least number");
        PoloSeason x = ball(0, 0, 1, 0);
        int[][] five = {{3, 4}, {-3, 4}, {4, -3}, {5, 0}, {0, -5}};
        for (int[] at : five) {
            x.rider(1, at[0], at[1], 7, 0);
            check.same("as even, as near", x.right(), 0);
        }
        x.rider(0, 0, 4, 7, 0);
        check.same("nearer", x.right(), 5);
        x.rider(0, 4, 0, 7, 0);
        check.same("as near", x.right(), 5);
    }

    private void otherSide() {
        check.about("24, a RIDER of the other side");
        for (int holder = 0; holder <= 1; holder++) {
            for (int other = 0; other <= 1; other++) {
                PoloSeason x = ball(0, 0, 1, 0);
                x.rider(holder, 0, 0, 10, 0);
                x.rider(other, 5, 5, 0, -10);
                check.same("foul(0), sides " + holder + " and " + other, x.foul(0), holder == other ? -1 : 1);
            }
        }
        PoloSeason nobody = ball(0, 0, 1, 0);
        nobody.rider(0, 0, 0, 0, 10);
        nobody.rider(1, 0, 0, 0, 10);
        check.same("foul(0), nobody has RIGHT", nobody.foul(0), -1);
        check.same("foul(0), no ball", new PoloSeason().foul(0), -1);
        check.same("foul(0), no riders", ball(0, 0, 1, 0).foul(0), -1);
    }

    private void onePointInCommon() {
        check.about("24, a point in common: ends count");
        check.same("across the middle", foulOf(5, 5, 0, -10), 1);
        check.same("ends on it", foulOf(5, 5, 0, -5), 1);
        check.same("ends one before it", foulOf(5, 5, 0, -4), -1);
        check.same("begins on it", foulOf(5, 0, 0, 5), 1);
        check.same("begins one beyond it", foulOf(5, 1, 0, 5), -1);
        check.same("through its beginning", foulOf(0, -1, 0, 2), 1);
        check.same("one beside its beginning", foulOf(-1, -1, 0, 2), -1);
        check.same("through its end", foulOf(10, 1, 0, -2), 1);
        check.same("one beside its end", foulOf(11, 1, 0, -2), -1);
        check.same("end to end", foulOf(15, 5, -5, -5), 1);
        check.same("end to end but for one", foulOf(15, 5, -4, -4), -1);
        check.same("aslant, hardly at its end", foulOf(11, 1000, -1, -1000), 1);
        check.same("aslant, hardly beside its end", foulOf(11, 999, -1, -998), -1);
    }

    /** Ends that lie as near to the other's line as whole numbers can, to either hand and of either stretch. */
    private void hardlyNone() {
        check.about("24, a point in common: hardly none");
        int[][] beside = {{1, 1, 1, 5}, {2, 6, -1, -5}, {2, 1, -1, -5}, {1, -4, 1, 5}};
        int[][] touching = {{1, 1, -1, -5}, {0, -4, 1, 5}, {2, 1, 1, 5}, {3, 6, -1, -5}};
        int[] slant = {0, 0, 3, 2};
        for (int i = 0; i < beside.length; i++) {
            check.same("beside " + i, foulBetween(slant, beside[i]), -1);
            check.same("beside " + i + ", the other has RIGHT", foulBetween(beside[i], slant), -1);
            check.same("through " + i, foulBetween(slant, touching[i]), 1);
            check.same("through " + i + ", the other has RIGHT", foulBetween(touching[i], slant), 1);
        }
    }

    private int foulBetween(int[] holder, int[] other) {
        PoloSeason x = ball(holder);
        rider(x, 0, holder);
        rider(x, 1, other);
        check.same("right()", x.right(), 0);
        return x.foul(0);
    }

    private void onOneLine() {
        check.about("24, a point in common: stretches on one line, and beside one another");
        check.same("end meets end", foulOf(20, 0, -10, 0), 1);
        check.same("one between them", foulOf(21, 0, -10, 0), -1);
        check.same("beginning meets beginning", foulOf(0, 0, -10, 0), 1);
        check.same("one between them", foulOf(-1, 0, -10, 0), -1);
        check.same("the same, against", foulOf(10, 0, -10, 0), 1);
        check.same("within it", foulOf(6, 0, -2, 0), 1);
        check.same("around it", foulOf(12, 0, -14, 0), 1);
        check.same("beside it", foulOf(10, 1, -10, 0), -1);
        PoloSeason far = ball(0, 0, 1, 1);
        far.rider(0, 1000, 1000, 1000, 1000);
        far.rider(1, 1000, -1000, 1000, -1000);
        far.rider(1, -1000, -1000, -1000, -1000);
        check.same("right(), the farthest", far.right(), 0);
        check.same("foul(0), the farthest", far.foul(0), -1);
        far.rider(1, 1000, 1000, -1000, -1000);
        check.same("foul(0), from its point", far.foul(0), 3);
    }

    private void theKth() {
        check.about("24, the k-th RIDER that makes a FOUL; NONE");
        PoloSeason x = ball(0, 0, 1, 0);
        x.rider(0, 5, 5, 0, -10);
        x.rider(1, 0, 0, 10, 0);
        x.rider(0, 5, 5, 0, -1);
        for (int i = 3; i < 8; i++) {
            x.rider(0, 5, 5, 0, -10);
        }
        int[] due = {0, 3, 4, 5, 6, 7, -1, -1};
        for (int k = 0; k < due.length; k++) {
            check.same("foul(" + k + ")", x.foul(k), due[k]);
        }
        for (int k : new int[] {-1, Integer.MIN_VALUE, Integer.MAX_VALUE}) {
            check.same("foul(" + k + ")", x.foul(k), -1);
        }
        for (int k = -1; k <= 1; k++) {
            check.same("foul(" + k + "), nobody", new PoloSeason().foul(k), -1);
        }
        PoloSeason seven = ball(0, 0, 1, 0);
        seven.rider(0, 0, 0, 10, 0);
        for (int i = 1; i < 8; i++) {
            seven.rider(1, i, 5, 0, -10);
        }
        for (int k = 0; k < 9; k++) {
            check.same("foul(" + k + "), seven", seven.foul(k), k < 7 ? k + 1 : -1);
        }
    }

    private void countOfOthers() {
        check.about("25, NONE for others");
        for (int what : new int[] {-1, 9, 10, Integer.MIN_VALUE, Integer.MAX_VALUE}) {
            check.keeps("count(" + what + "), new", -1, PoloSeason::new, x -> x.count(what));
            check.keeps("count(" + what + "), full", -1, () -> Seasons.drawn(Seasons.full(), 6), x -> x.count(what));
        }
    }

    private void countsEmptyAndFull() {
        check.about("25, what there is, from none to as many as can be");
        for (int what = 0; what <= 8; what++) {
            check.same("count(" + what + "), new", new PoloSeason().count(what), 0);
        }
        PoloSeason x = Seasons.won(Seasons.full(), 6);
        for (int i = 0; i < 25; i++) {
            x.noise(i);
        }
        x.rest();
        x.rest();
        x.ball(0, 0, 1, 0);
        for (int i = 0; i < 8; i++) {
            x.rider(0, 0, 0, 1, 0);
        }
        int[] due = {32, 8, 60, 8, 14, 6, 2, 20, 8};
        for (int what = 0; what <= 8; what++) {
            check.same("count(" + what + "), full", x.count(what), due[what]);
        }
    }
}

/** Promises 1 to 5: a new object, player, rate, team, strength. */
public final class RosterTest {
    public static void main(String[] args) {
        Check check = new Check();
        newObject(check);
        players(check);
        rates(check);
        teams(check);
        strengths(check);
        check.finish("RosterTest");
    }

    private static void newObject(Check check) {
        PoloSeason x = new PoloSeason();
        for (int what = 0; what <= 8; what++) {
            check.same("new: count(" + what + ")", x.count(what), 0);
        }
        check.index("new: strength(0)", () -> x.strength(0));
        check.index("new: rate(0, 0)", () -> x.rate(0, 0));
        check.index("new: told(0, 0)", () -> x.told(0, 0));
        check.state("new: draw()", x::draw);
        check.state("new: rider(0, 0, 0, 1, 0)", () -> x.rider(0, 0, 0, 1, 0));
        check.same("new: afoot()", x.afoot(), 0);
        check.same("new: next(0)", x.next(0), -1);
        check.same("new: row(0, 0)", x.row(0, 0), -1);
        check.same("new: right()", x.right(), -1);
    }

    private static void players(Check check) {
        PoloSeason x = new PoloSeason();
        check.argument("player(-3)", () -> x.player(-3));
        check.argument("player(11)", () -> x.player(11));
        check.same("count(0)", x.count(0), 0);
        for (int i = 0; i < 32; i++) {
            check.same("player " + i, x.player(i % 13 - 2), i);
        }
        check.state("player(0), the 33rd", () -> x.player(0));
        check.argument("player(11), the 33rd", () -> x.player(11));
        check.same("count(0), full", x.count(0), 32);
    }

    private static void rates(Check check) {
        PoloSeason x = new PoloSeason();
        x.player(10);
        check.same("rate(0, -2)", x.rate(0, -2), 10);
        check.same("rate(0, 10)", x.rate(0, 10), -2);
        check.argument("rate(0, 11)", () -> x.rate(0, 11));
        check.argument("rate(0, -3)", () -> x.rate(0, -3));
        check.index("rate(1, 0)", () -> x.rate(1, 0));
        check.index("rate(-1, 0)", () -> x.rate(-1, 0));
        check.index("rate(1, 11): the player first", () -> x.rate(1, 11));
        check.same("rate(0, 3), wrong ones changed nothing", x.rate(0, 3), 10);
    }

    private static void teams(Check check) {
        PoloSeason x = new PoloSeason();
        for (int i = 0; i < 32; i++) {
            x.player(0);
        }
        int[][] twice = {{0, 0, 1, 2}, {0, 1, 0, 2}, {0, 1, 2, 0}, {1, 0, 0, 2}, {1, 0, 2, 0}, {1, 2, 0, 0}};
        for (int[] t : twice) {
            check.same("team told twice", x.team(t[0], t[1], t[2], t[3]), -1);
        }
        check.same("team(3, 2, 1, 0)", x.team(3, 2, 1, 0), 0);
        check.same("team(0, 4, 5, 6)", x.team(0, 4, 5, 6), -1);
        check.same("team(4, 1, 5, 6)", x.team(4, 1, 5, 6), -1);
        check.same("team(4, 5, 2, 6)", x.team(4, 5, 2, 6), -1);
        check.same("team(4, 5, 6, 3)", x.team(4, 5, 6, 3), -1);
        check.index("team(32, 5, 6, 7)", () -> x.team(32, 5, 6, 7));
        check.index("team(4, -1, 6, 7)", () -> x.team(4, -1, 6, 7));
        check.index("team(4, 5, 32, 7)", () -> x.team(4, 5, 32, 7));
        check.index("team(0, 0, 0, -1): no such player first", () -> x.team(0, 0, 0, -1));
        check.same("count(1)", x.count(1), 1);
        for (int t = 1; t < 8; t++) {
            check.same("team " + t, x.team(4 * t, 4 * t + 1, 4 * t + 2, 4 * t + 3), t);
        }
        check.state("team(0, 1, 2, 3), the ninth", () -> x.team(0, 1, 2, 3));
        check.index("team(0, 1, 2, 32), the ninth", () -> x.team(0, 1, 2, 32));
        check.same("count(1), full", x.count(1), 8);
    }

    private static void strengths(Check check) {
        PoloSeason x = new PoloSeason();
        int[] handicaps = {10, -2, 3, 5, 10, 10, 10, 10, -2, -2, -2, -2};
        for (int handicap : handicaps) {
            x.player(handicap);
        }
        x.team(0, 2, 1, 3);
        x.team(4, 5, 6, 7);
        x.team(8, 9, 10, 11);
        check.same("strength(0)", x.strength(0), 16);
        check.same("strength(1)", x.strength(1), 40);
        check.same("strength(2)", x.strength(2), -8);
        x.rate(1, 0);
        check.same("strength(0), rated anew", x.strength(0), 18);
        check.index("strength(3)", () -> x.strength(3));
        check.index("strength(-1)", () -> x.strength(-1));
    }
}

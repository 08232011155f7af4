/** Promises 6 to 14 and what count tells of the cup: cup, enter, noise, draw, next, given, play, where, row. */
public final class CupTest {
    public static void main(String[] args) {
        Check check = new Check();
        cups(check);
        entering(check);
        noises(check);
        drawing(check);
        giving(check);
        playing(check);
        eightTeams(check);
        restingLast(check);
        wholeWins(check);
        check.finish("CupTest");
    }

    /** So many teams; each PLAYER of team t has the handicap told for it. */
    private static PoloSeason teams(int... handicaps) {
        PoloSeason x = new PoloSeason();
        for (int handicap : handicaps) {
            int first = x.player(handicap);
            x.player(handicap);
            x.player(handicap);
            x.team(first, first + 1, first + 2, x.player(handicap));
        }
        return x;
    }

    /** A drawn cup of equal teams that lie in the order of their numbers. */
    private static PoloSeason drawnInOrder(int teams) {
        PoloSeason x = teams(new int[teams]);
        x.cup(0, 4);
        for (int t = 0; t < teams; t++) {
            x.enter(t);
        }
        for (int i = teams - 1; i >= 1; i--) {
            x.noise(i);
        }
        x.draw();
        return x;
    }

    private static void cups(Check check) {
        PoloSeason x = teams(0, 0);
        int[][] wrong = {{-1, 4}, {41, 4}, {0, 3}, {0, 7}, {40, -4}};
        for (int[] w : wrong) {
            check.argument("cup" + w[0] + "," + w[1], () -> cupOf(x, w[0], w[1]));
        }
        check.state("enter(0), no cup", () -> x.enter(0));
        x.cup(40, 6);
        x.cup(0, 4);
        x.enter(1);
        x.enter(0);
        check.argument("cup(41, 4)", () -> cupOf(x, 41, 4));
        check.same("a wrong cup leaves the one that is", x.count(3), 2);
        x.noise(0);
        x.noise(7);
        x.draw();
        x.noise(9);
        x.play(1, 0);
        check.same("count(5)", x.count(5), 2);
        x.cup(0, 5);
        for (int what = 3; what <= 5; what++) {
            check.same("new cup: count(" + what + ")", x.count(what), 0);
        }
        check.same("new cup: noise is of no cup", x.count(7), 1);
        check.same("new cup: next(0)", x.next(0), -1);
        check.same("new cup: row(0, 0)", x.row(0, 0), -1);
        check.same("new cup: row(1, 0)", x.row(1, 0), -1);
        check.same("new cup: where(0)", x.where(0), 0);
        check.state("new cup: play(1, 0)", () -> x.play(1, 0));
        check.same("new cup: draw()", x.draw(), -1);
        check.same("new cup: afoot stays", x.afoot(), 32);
        check.same("new cup: enter(0)", x.enter(0), 1);
    }

    private static int cupOf(PoloSeason x, int limit, int chukkas) {
        x.cup(limit, chukkas);
        return 0;
    }

    private static void entering(Check check) {
        PoloSeason x = teams(1, 2, 0);
        check.index("enter(3), no cup", () -> x.enter(3));
        check.index("enter(-1)", () -> x.enter(-1));
        x.cup(4, 4);
        check.same("enter(1), above", x.enter(1), -2);
        check.same("enter(0), at the limit", x.enter(0), 1);
        check.same("enter(0) again", x.enter(0), -1);
        x.rate(0, 9);
        check.same("enter(0), in it and above: the first", x.enter(0), -1);
        check.same("enter(2)", x.enter(2), 2);
        check.same("count(3)", x.count(3), 2);
        x.noise(1);
        x.draw();
        check.state("enter(1), drawn", () -> x.enter(1));
        check.state("enter(0), drawn", () -> x.enter(0));
        check.index("enter(3), drawn", () -> x.enter(3));
    }

    private static void noises(Check check) {
        PoloSeason x = new PoloSeason();
        for (int i = 1; i <= 20; i++) {
            check.same("noise", x.noise(-i), i);
        }
        check.same("noise, the 21st", x.noise(5), -1);
        check.same("count(7)", x.count(7), 20);
    }

    private static void drawing(Check check) {
        PoloSeason x = teams(0, 0, 0, 0);
        check.state("draw(), no cup", x::draw);
        x.cup(0, 4);
        check.same("draw(), none in it", x.draw(), -1);
        x.enter(3);
        check.same("draw(), one in it", x.draw(), -1);
        x.enter(1);
        x.enter(0);
        x.enter(2);
        x.noise(-1);
        x.noise(-1);
        check.same("draw(), noise too short", x.draw(), -2);
        check.same("next(0), not drawn", x.next(0), -1);
        check.same("row(0, 0), not drawn", x.row(0, 0), -1);
        check.same("where(3), not drawn", x.where(3), 0);
        check.same("count(5), not drawn", x.count(5), 0);
        check.same("count(7), not drawn", x.count(7), 2);
        x.noise(Integer.MIN_VALUE);
        x.noise(17);
        check.same("draw()", x.draw(), 4);
        check.same("count(7), drawn", x.count(7), 0);
        check.same("count(5), drawn", x.count(5), 1);
        // 4,294,967,295 leaves 3 by 4 and 0 by 3; 2,147,483,648 leaves 0 by 2: [3 1 0 2], [0 1 3 2], [1 0 3 2]
        int[] due = {1, 0, 3, 2};
        for (int k = 0; k < 4; k++) {
            check.same("row(0, " + k + ")", x.row(0, k), due[k]);
        }
        check.state("draw() again", x::draw);
    }

    private static void giving(Check check) {
        PoloSeason x = teams(0, 2, -2, 10);
        x.rate(0, 1);
        int[][] halves = {{1, 0, 4, 9}, {1, 0, 5, 11}, {1, 0, 6, 14}, {2, 1, 6, 32}, {2, 1, 5, 27}, {3, 2, 6, 96}, {3, 2, 4, 64}};
        for (int[] h : halves) {
            x.cup(40, h[2]);
            x.enter(h[0]);
            x.enter(h[1]);
            x.noise(1);
            x.draw();
            boolean firstIsWeak = x.strength(h[0]) < x.strength(h[1]);
            check.same("given(0), " + h[2] + " chukkas", x.given(0), firstIsWeak ? h[3] : 0);
            check.same("given(1), " + h[2] + " chukkas", x.given(1), firstIsWeak ? 0 : h[3]);
        }
        x.rate(12, 9);
        check.same("given(1), rated anew", x.given(1), 63);
        check.argument("given(2)", () -> x.given(2));
        check.argument("given(-1)", () -> x.given(-1));
        x.cup(1, 4);
        check.same("given(0), none is next", x.given(0), -1);
        check.same("given(1), none is next", x.given(1), -1);
        check.argument("given(2), none is next", () -> x.given(2));
    }

    private static void playing(Check check) {
        PoloSeason x = teams(0, 1);
        check.state("play(0, 0), no cup", () -> x.play(0, 0));
        check.argument("play(51, 0), no cup", () -> x.play(51, 0));
        x.cup(4, 4);
        x.enter(0);
        x.enter(1);
        check.state("play(0, 0), not drawn", () -> x.play(0, 0));
        x.noise(1);
        x.draw();
        check.argument("play(-1, 0)", () -> x.play(-1, 0));
        check.argument("play(0, 51)", () -> x.play(0, 51));
        check.argument("play(0, -1)", () -> x.play(0, -1));
        check.argument("next(2)", () -> x.next(2));
        check.argument("next(-1)", () -> x.next(-1));
        check.same("given(0)", x.given(0), 5);
        check.same("play(0, 2): half a goal decides", x.play(0, 2), 0);
        check.same("where(1)", x.where(1), 2);
        check.same("play(48, 50): 2 and a half above 2", x.play(48, 50), 0);
        check.same("where(0)", x.where(0), 4);
        check.same("where(1)", x.where(1), 3);
        check.argument("play(51, 51), won", () -> x.play(51, 51));
        check.state("play(1, 0), won", () -> x.play(1, 0));
        check.state("draw(), won", x::draw);
        check.same("next(1), won", x.next(1), -1);
        check.same("row(0, 0), won", x.row(0, 0), 0);
        check.same("row(1, 0), won", x.row(1, 0), -1);
        check.same("count(5), won", x.count(5), 2);
        PoloSeason y = drawnInOrder(2);
        check.same("play(3, 3)", y.play(3, 3), -1);
        check.same("afoot(), nothing changed", y.afoot(), 0);
        check.same("count(4), nothing changed", y.count(4), 0);
    }

    private static void rowsAre(Check check, String when, PoloSeason x, int[] whole, int[] hurt) {
        for (int k = 0; k <= 8; k++) {
            check.same(when + ": row(0, " + k + ")", x.row(0, k), k < whole.length ? whole[k] : -1);
            check.same(when + ": row(1, " + k + ")", x.row(1, k), k < hurt.length ? hurt[k] : -1);
        }
        check.same(when + ": row(0, -1)", x.row(0, -1), -1);
        check.same(when + ": row(1, max)", x.row(1, Integer.MAX_VALUE), -1);
        check.argument(when + ": row(2, 0)", () -> x.row(2, 0));
        check.argument(when + ": row(-1, 0)", () -> x.row(-1, 0));
    }

    private static void match(Check check, PoloSeason x, int first, int second, int winner) {
        check.same("next(0)", x.next(0), first);
        check.same("next(1)", x.next(1), second);
        check.same("play", x.play(winner == first ? 1 : 0, winner == first ? 0 : 1), winner);
    }

    private static void eightTeams(Check check) {
        PoloSeason x = drawnInOrder(8);
        rowsAre(check, "drawn", x, new int[] {0, 1, 2, 3, 4, 5, 6, 7}, new int[0]);
        match(check, x, 0, 1, 1);
        match(check, x, 2, 3, 2);
        check.same("who lost in this round is as it was", x.where(0), 1);
        rowsAre(check, "within a round", x, new int[] {0, 1, 2, 3, 4, 5, 6, 7}, new int[0]);
        match(check, x, 4, 5, 5);
        check.same("count(5)", x.count(5), 1);
        match(check, x, 6, 7, 6);
        rowsAre(check, "round 2", x, new int[] {1, 2, 5, 6}, new int[] {0, 3, 4, 7});
        check.same("where(0)", x.where(0), 2);
        check.same("where(1)", x.where(1), 1);
        match(check, x, 1, 2, 2);
        match(check, x, 5, 6, 5);
        match(check, x, 0, 3, 3);
        check.same("where(0), lost in this round", x.where(0), 2);
        match(check, x, 4, 7, 4);
        rowsAre(check, "round 3", x, new int[] {2, 5}, new int[] {3, 4, 1, 6});
        check.same("where(0), out", x.where(0), 3);
        check.same("where(7), out", x.where(7), 3);
        match(check, x, 2, 5, 5);
        match(check, x, 3, 4, 4);
        match(check, x, 1, 6, 1);
        rowsAre(check, "round 4", x, new int[] {5}, new int[] {4, 1, 2});
        match(check, x, 4, 1, 1);
        rowsAre(check, "round 5", x, new int[] {5}, new int[] {1, 2});
        match(check, x, 1, 2, 2);
        rowsAre(check, "round 6", x, new int[] {5}, new int[] {2});
        match(check, x, 5, 2, 2);
        rowsAre(check, "round 7", x, new int[0], new int[] {2, 5});
        check.same("where(5)", x.where(5), 2);
        match(check, x, 2, 5, 5);
        rowsAre(check, "won", x, new int[0], new int[] {5});
        check.same("where(5)", x.where(5), 4);
        check.same("where(2)", x.where(2), 3);
        check.same("count(3)", x.count(3), 8);
        check.same("count(4)", x.count(4), 15);
        check.same("count(5)", x.count(5), 7);
        check.index("where(8)", () -> x.where(8));
        check.index("where(-1)", () -> x.where(-1));
    }

    private static void restingLast(Check check) {
        PoloSeason x = drawnInOrder(3);
        match(check, x, 0, 1, 1);
        rowsAre(check, "two whole, one hurt", x, new int[] {1, 2}, new int[] {0});
        match(check, x, 1, 2, 1);
        rowsAre(check, "one whole, two hurt", x, new int[] {1}, new int[] {0, 2});
        match(check, x, 0, 2, 2);
        match(check, x, 1, 2, 1);
        check.same("where(1)", x.where(1), 4);
    }

    private static void wholeWins(Check check) {
        PoloSeason x = teams(0, 0, 0);
        x.cup(0, 6);
        x.enter(2);
        x.enter(0);
        x.noise(1);
        x.draw();
        match(check, x, 2, 0, 2);
        match(check, x, 2, 0, 2);
        rowsAre(check, "won whole", x, new int[] {2}, new int[0]);
        check.same("where(2)", x.where(2), 4);
        check.same("where(1), not in it", x.where(1), 0);
        check.same("count(4)", x.count(4), 2);
        check.same("count(5)", x.count(5), 2);
        check.same("afoot()", x.afoot(), 96);
    }
}

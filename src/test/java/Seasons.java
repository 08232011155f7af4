/** Seasons that tests begin with. */
final class Seasons {
    /** Numbers that no bound of the document lets through. */
    static final int[] FAR = {Integer.MIN_VALUE, Integer.MIN_VALUE + 1, -100001, 100001, Integer.MAX_VALUE - 1, Integer.MAX_VALUE};

    private Seasons() {
    }

    static PoloSeason players(int many) {
        PoloSeason x = new PoloSeason();
        for (int i = 0; i < many; i++) {
            x.player(0);
        }
        return x;
    }

    /** Team t has players 4 t to 4 t + 3, each with the handicap told for it. */
    static PoloSeason teams(int... handicaps) {
        PoloSeason x = new PoloSeason();
        for (int handicap : handicaps) {
            int first = x.player(handicap);
            x.player(handicap);
            x.player(handicap);
            x.team(first, first + 1, first + 2, x.player(handicap));
        }
        return x;
    }

    /** A cup that all teams of a season have entered. */
    static PoloSeason entered(PoloSeason x, int chukkas) {
        x.cup(40, chukkas);
        for (int team = 0; team < x.count(1); team++) {
            x.enter(team);
        }
        return x;
    }

    /** The same, drawn: the teams lie in the order of their numbers. */
    static PoloSeason drawn(PoloSeason x, int chukkas) {
        entered(x, chukkas);
        for (int i = x.count(3) - 1; i >= 1; i--) {
            x.noise(i);
        }
        x.draw();
        return x;
    }

    /** The same, won by team 0: the first of the next match wins until none is next. */
    static PoloSeason won(PoloSeason x, int chukkas) {
        drawn(x, chukkas);
        for (int match = 0; match < 20 && x.next(0) != PoloSeason.NONE; match++) {
            x.play(50, 0);
        }
        return x;
    }

    /** 32 players, 8 teams, 60 ponies: 8 of players 0 to 6, 4 of player 7. */
    static PoloSeason full() {
        PoloSeason x = teams(new int[8]);
        for (int pony = 0; pony < 60; pony++) {
            x.pony(pony / 8);
        }
        return x;
    }

    static int cup(PoloSeason x, int limit, int chukkas) {
        x.cup(limit, chukkas);
        return 0;
    }

    static int ball(PoloSeason x, int... numbers) {
        x.ball(numbers[0], numbers[1], numbers[2], numbers[3]);
        return 0;
    }

    static int lame(PoloSeason x, int pony, int till) {
        return x.lame(pony, till) ? 1 : 0;
    }
}

/** The boundary cases of promises 1 to 5, a method for each sentence that names one. */
public final class RosterEdgesTest {
    private final Check check = new Check();

    public static void main(String[] args) {
        RosterEdgesTest test = new RosterEdgesTest();
        test.newObjects();
        test.handicapOfAPlayer();
        test.thirtyTwoPlayers();
        test.anotherHandicap();
        test.noSuchPlayer();
        test.oneIsInATeam();
        test.oneIsToldTwice();
        test.noSuchPlayerAmongTheOthers();
        test.eightTeams();
        test.strengths();
        test.noSuchTeam();
        test.check.finish("RosterEdgesTest");
    }

    private void newObjects() {
        noPlayers();
        noTeams();
        noPonies();
        noCup();
        noBall();
        dayZero();
    }

    private void noPlayers() {
        check.about("1, a new object has no PLAYERS");
        check.same("count(0)", new PoloSeason().count(0), 0);
        check.index("rate(0, 0)", PoloSeason::new, x -> x.rate(0, 0));
        check.index("team(0, 0, 0, 0)", PoloSeason::new, x -> x.team(0, 0, 0, 0));
        check.index("pony(0)", PoloSeason::new, x -> x.pony(0));
        check.index("mount(0, 1, 0)", PoloSeason::new, x -> x.mount(0, 1, 0));
        check.same("the first player's number", new PoloSeason().player(0), 0);
    }

    private void noTeams() {
        check.about("1, a new object has no TEAMS");
        check.same("count(1)", new PoloSeason().count(1), 0);
        check.index("strength(0)", PoloSeason::new, x -> x.strength(0));
        check.index("enter(0)", PoloSeason::new, x -> x.enter(0));
        check.index("where(0)", PoloSeason::new, x -> x.where(0));
        check.same("the first team's number", Seasons.players(4).team(0, 1, 2, 3), 0);
    }

    private void noPonies() {
        check.about("1, a new object has no PONIES");
        check.same("count(2)", new PoloSeason().count(2), 0);
        check.index("lame(0, 0)", PoloSeason::new, x -> Seasons.lame(x, 0, 0));
        check.index("told(0, 0)", PoloSeason::new, x -> x.told(0, 0));
        check.same("the first pony's number", Seasons.players(1).pony(0), 0);
        check.same("mount(0, 1, 0)", Seasons.players(1).mount(0, 1, 0), -1);
    }

    private void noCup() {
        check.about("1, a new object has no CUP");
        for (int what = 3; what <= 5; what++) {
            check.same("count(" + what + ")", new PoloSeason().count(what), 0);
        }
        check.state("enter(0)", () -> Seasons.teams(0, 0), x -> x.enter(0));
        check.state("draw()", PoloSeason::new, PoloSeason::draw);
        check.state("play(0, 0)", PoloSeason::new, x -> x.play(0, 0));
        for (int which = 0; which <= 1; which++) {
            check.same("next(" + which + ")", new PoloSeason().next(which), -1);
            check.same("given(" + which + ")", new PoloSeason().given(which), -1);
            check.same("row(" + which + ", 0)", new PoloSeason().row(which, 0), -1);
        }
        check.same("where(0)", Seasons.teams(0).where(0), 0);
        check.same("afoot()", new PoloSeason().afoot(), 0);
        check.same("count(7)", new PoloSeason().count(7), 0);
    }

    private void noBall() {
        check.about("1, a new object has no BALL");
        check.same("count(8)", new PoloSeason().count(8), 0);
        check.state("rider(0, 0, 0, 1, 0)", PoloSeason::new, x -> x.rider(0, 0, 0, 1, 0));
        check.same("right()", new PoloSeason().right(), -1);
        check.same("foul(0)", new PoloSeason().foul(0), -1);
    }

    private void dayZero() {
        check.about("1, it is DAY 0");
        check.same("count(6)", new PoloSeason().count(6), 0);
        check.same("rest()", new PoloSeason().rest(), 1);
    }

    private void handicapOfAPlayer() {
        check.about("2, IllegalArgumentException: the HANDICAP is not -2 to 10");
        PoloSeason taken = new PoloSeason();
        for (int handicap = -2; handicap <= 10; handicap++) {
            check.same("player(" + handicap + ")", taken.player(handicap), handicap + 2);
        }
        for (int handicap = -2; handicap <= 10; handicap++) {
            check.same("rate, of " + handicap, taken.rate(handicap + 2, 0), handicap);
        }
        for (int handicap : new int[] {-3, 11}) {
            check.argument("player(" + handicap + ")", PoloSeason::new, x -> x.player(handicap));
        }
        for (int handicap : Seasons.FAR) {
            check.argument("player(" + handicap + ")", () -> Seasons.players(1), x -> x.player(handicap));
        }
    }

    private void thirtyTwoPlayers() {
        check.about("2, IllegalStateException: there are 32 PLAYERS");
        for (int many = 0; many < 32; many++) {
            check.same("player(0), with " + many, Seasons.players(many).player(0), many);
        }
        check.state("player(0), the 33rd", () -> Seasons.players(32), x -> x.player(0));
        check.argument("player(-3), the 33rd", () -> Seasons.players(32), x -> x.player(-3));
        check.argument("player(11), the 33rd", () -> Seasons.players(32), x -> x.player(11));
    }

    private void anotherHandicap() {
        check.about("3, IllegalArgumentException likewise");
        for (int handicap = -2; handicap <= 10; handicap++) {
            PoloSeason x = Seasons.players(1);
            check.same("rate(0, " + handicap + ")", x.rate(0, handicap), 0);
            check.same("rate(0, 0), of " + handicap, x.rate(0, 0), handicap);
        }
        for (int handicap : new int[] {-3, 11, Integer.MIN_VALUE, Integer.MAX_VALUE}) {
            PoloSeason x = Seasons.teams(7);
            check.argument("rate(0, " + handicap + ")", () -> x.rate(0, handicap));
            check.same("strength(0), as it was", x.strength(0), 28);
            check.same("rate(0, 0), as it was", x.rate(0, 0), 7);
        }
    }

    private void noSuchPlayer() {
        check.about("3, IndexOutOfBoundsException: no such PLAYER");
        for (int many : new int[] {1, 31, 32}) {
            check.same("rate, the last of " + many, Seasons.players(many).rate(many - 1, 1), 0);
            check.index("rate(-1, 0), of " + many, () -> Seasons.players(many), x -> x.rate(-1, 0));
            check.index("rate, beyond " + many, () -> Seasons.players(many), x -> x.rate(many, 0));
            check.index("rate, beyond " + many + ", with no handicap", () -> Seasons.players(many), x -> x.rate(many, 11));
        }
        for (int player : Seasons.FAR) {
            check.index("rate(" + player + ", 0)", () -> Seasons.players(32), x -> x.rate(player, 0));
        }
    }

    private void oneIsInATeam() {
        check.about("4, -1: one is in a TEAM");
        for (int place = 0; place < 4; place++) {
            for (int member = 0; member < 4; member++) {
                int[] four = {4, 5, 6, 7};
                four[place] = member;
                check.keeps("team, " + member + " at " + place, -1, RosterEdgesTest::oneTeamOfEight,
                        x -> x.team(four[0], four[1], four[2], four[3]));
            }
        }
        PoloSeason x = oneTeamOfEight();
        x.team(4, 5, 6, 0);
        check.same("team(4, 5, 6, 7): a refused one takes nobody", x.team(4, 5, 6, 7), 1);
    }

    private static PoloSeason oneTeamOfEight() {
        PoloSeason x = Seasons.players(8);
        x.team(0, 1, 2, 3);
        return x;
    }

    private void oneIsToldTwice() {
        check.about("4, -1: one is told twice");
        for (int place = 0; place < 4; place++) {
            for (int other = place + 1; other < 4; other++) {
                int[] four = {0, 1, 2, 3};
                four[place] = four[other];
                check.keeps("team, twice at " + place + " and " + other, -1, () -> Seasons.players(4),
                        x -> x.team(four[0], four[1], four[2], four[3]));
                PoloSeason x = Seasons.players(4);
                x.team(four[0], four[1], four[2], four[3]);
                check.same("team(0, 1, 2, 3): a refused one takes nobody", x.team(0, 1, 2, 3), 0);
            }
        }
        check.keeps("team(0, 0, 0, 0)", -1, () -> Seasons.players(1), x -> x.team(0, 0, 0, 0));
    }

    private void noSuchPlayerAmongTheOthers() {
        check.about("4, IndexOutOfBoundsException: also of the others");
        for (int place = 0; place < 4; place++) {
            for (int player : new int[] {-1, 4, Integer.MIN_VALUE, Integer.MAX_VALUE}) {
                int[] four = {0, 1, 2, 3};
                four[place] = player;
                check.index("team, " + player + " at " + place, () -> Seasons.players(4),
                        x -> x.team(four[0], four[1], four[2], four[3]));
            }
            int[] twice = {0, 0, 0, 0};
            twice[place] = 8;
            check.index("team, 8 at " + place + ", one twice and in a team", RosterEdgesTest::oneTeamOfEight,
                    x -> x.team(twice[0], twice[1], twice[2], twice[3]));
            int[] last = {0, 1, 2, 3};
            last[place] = 31;
            check.same("team, 31 at " + place, Seasons.players(32).team(last[0], last[1], last[2], last[3]), 0);
        }
    }

    private void eightTeams() {
        check.about("4, IllegalStateException: there are 8 TEAMS");
        for (int many = 0; many < 8; many++) {
            PoloSeason x = Seasons.teams(new int[many]);
            for (int i = 0; i < 4; i++) {
                x.player(0);
            }
            int first = 4 * many;
            check.same("team, with " + many, x.team(first + 3, first + 2, first + 1, first), many);
            check.same("count(1)", x.count(1), many + 1);
        }
        check.state("team(0, 1, 2, 3), the ninth", Seasons::full, x -> x.team(0, 1, 2, 3));
        check.state("team(28, 28, 28, 28), the ninth", Seasons::full, x -> x.team(28, 28, 28, 28));
        check.index("team(0, 1, 2, 32), the ninth", Seasons::full, x -> x.team(0, 1, 2, 32));
        check.index("team(-1, 1, 2, 3), the ninth", Seasons::full, x -> x.team(-1, 1, 2, 3));
    }

    private void strengths() {
        check.about("5, STRENGTH: the HANDICAPS together, -8 to 40");
        check.same("strength(0), the least", Seasons.teams(-2).strength(0), -8);
        check.same("strength(0), the greatest", Seasons.teams(10).strength(0), 40);
        for (int player = 0; player < 4; player++) {
            PoloSeason x = Seasons.teams(0, 5);
            x.rate(player, 10);
            check.same("strength(0), " + player + " rated 10", x.strength(0), 10);
            x.rate(player, -2);
            check.same("strength(0), " + player + " rated -2", x.strength(0), -2);
            check.same("strength(1)", x.strength(1), 20);
        }
    }

    private void noSuchTeam() {
        check.about("5, IndexOutOfBoundsException: no such TEAM");
        for (int many : new int[] {1, 7, 8}) {
            check.same("strength, the last of " + many, Seasons.teams(new int[many]).strength(many - 1), 0);
            check.index("strength(-1), of " + many, () -> Seasons.teams(new int[many]), x -> x.strength(-1));
            check.index("strength, beyond " + many, () -> Seasons.teams(new int[many]), x -> x.strength(many));
        }
        for (int team : Seasons.FAR) {
            check.index("strength(" + team + ")", Seasons::full, x -> x.strength(team));
        }
    }
}

import java.util.ArrayList;
import java.util.List;

/** The boundary cases of promises 10 to 14 (next, given, play, where, row), a method for each sentence that names one. */
public final class MatchEdgesTest {
    private static final int[] NEITHER = {-1, 2, Integer.MIN_VALUE, Integer.MAX_VALUE};

    private final Check check = new Check();

    public static void main(String[] args) {
        MatchEdgesTest test = new MatchEdgesTest();
        test.anotherWhich();
        test.noneIsNext();
        test.halves();
        test.givenTheMost();
        test.goals();
        test.goalsAndNoneNext();
        test.noneNextToPlay();
        test.asManyEach();
        test.halfAGoalDecides();
        test.notInIt();
        test.notDrawn();
        test.whereAtTheBeginning();
        test.noSuchTeam();
        test.rowsEnds();
        test.lastOneRests();
        test.oneOfEach();
        test.everyCup();
        test.check.finish("MatchEdgesTest");
    }

    private static PoloSeason[] withoutNext() {
        return new PoloSeason[] {new PoloSeason(), Seasons.teams(0, 0), Seasons.entered(Seasons.teams(0, 0), 4),
            Seasons.entered(Seasons.teams(new int[8]), 4), Seasons.won(Seasons.teams(0, 0), 4),
            Seasons.won(Seasons.teams(new int[8]), 6)};
    }

    private void anotherWhich() {
        check.about("10, 11, 14, IllegalArgumentException: another which");
        for (int which : NEITHER) {
            check.argument("next(" + which + ")", () -> Seasons.drawn(Seasons.teams(0, 1), 4), x -> x.next(which));
            check.argument("given(" + which + ")", () -> Seasons.drawn(Seasons.teams(0, 1), 4), x -> x.given(which));
            check.argument("row(" + which + ", 0)", () -> Seasons.drawn(Seasons.teams(0, 1), 4), x -> x.row(which, 0));
            for (PoloSeason x : withoutNext()) {
                check.argument("next(" + which + "), none is next", () -> x.next(which));
                check.argument("given(" + which + "), none is next", () -> x.given(which));
                check.argument("row(" + which + ", -1)", () -> x.row(which, -1));
                check.argument("row(" + which + ", 0)", () -> x.row(which, 0));
                check.argument("row(" + which + ", 8)", () -> x.row(which, 8));
            }
        }
    }

    private void noneIsNext() {
        check.about("10, 11, NONE: none is next");
        for (PoloSeason x : withoutNext()) {
            for (int which = 0; which <= 1; which++) {
                check.same("next(" + which + ")", x.next(which), -1);
                check.same("given(" + which + ")", x.given(which), -1);
            }
        }
        PoloSeason drawn = Seasons.drawn(Seasons.teams(0, 0), 4);
        check.same("next(0), drawn", drawn.next(0), 0);
        check.same("next(1), drawn", drawn.next(1), 1);
        check.same("given(0), as strong", drawn.given(0), 0);
        check.same("given(1), as strong", drawn.given(1), 0);
    }

    /** Every difference of STRENGTHS with every number of CHUKKAS, to either side. */
    private void halves() {
        check.about("11, whole goals, and half a goal for whatever is left of that");
        for (int chukkas = 4; chukkas <= 6; chukkas++) {
            for (int difference = 0; difference <= 48; difference++) {
                PoloSeason x = Seasons.teams(-2, -2);
                rateAbove(x, 1, difference);
                Seasons.drawn(x, chukkas);
                int due = 0;
                for (int sixths = difference * chukkas; sixths > 0; sixths -= 6) {
                    due += sixths >= 6 ? 2 : 1;
                }
                check.same("given(0), " + difference + " * " + chukkas, x.given(0), due);
                check.same("given(1), " + difference + " * " + chukkas, x.given(1), 0);
                rateAbove(x, 1, 0);
                rateAbove(x, 0, difference);
                check.same("given(0), the other way", x.given(0), 0);
                check.same("given(1), the other way", x.given(1), due);
            }
        }
    }

    /** STRENGTH is -8 and so much. */
    private static void rateAbove(PoloSeason x, int team, int much) {
        for (int i = 0, left = much; i < 4; i++) {
            int more = Math.min(12, left);
            x.rate(4 * team + i, -2 + more);
            left -= more;
        }
    }

    private void givenTheMost() {
        check.about("11, the least and the most that is GIVEN");
        int[][] cases = {{1, 4, 1}, {1, 5, 1}, {1, 6, 2}, {2, 4, 3}, {3, 4, 4}, {5, 5, 9}, {6, 5, 10}, {48, 4, 64}, {48, 5, 80}, {48, 6, 96}};
        for (int[] c : cases) {
            PoloSeason x = Seasons.teams(-2, -2);
            rateAbove(x, 1, c[0]);
            Seasons.drawn(x, c[1]);
            check.same("given(0), " + c[0] + " * " + c[1], x.given(0), c[2]);
        }
    }

    private void goals() {
        check.about("12, IllegalArgumentException: goals are not 0 to 50");
        int[][] taken = {{0, 1, 1}, {1, 0, 0}, {50, 0, 0}, {0, 50, 1}, {50, 49, 0}, {49, 50, 1}};
        for (int[] t : taken) {
            check.same("play(" + t[0] + ", " + t[1] + ")", Seasons.drawn(Seasons.teams(0, 0), 4).play(t[0], t[1]), t[2]);
        }
        for (int wrong : new int[] {-1, 51, Integer.MIN_VALUE, Integer.MAX_VALUE}) {
            for (int other : new int[] {0, 50, wrong}) {
                check.argument("play(" + wrong + ", " + other + ")", MatchEdgesTest::withPonies, x -> x.play(wrong, other));
                check.argument("play(" + other + ", " + wrong + ")", MatchEdgesTest::withPonies, x -> x.play(other, wrong));
            }
        }
    }

    private static PoloSeason withPonies() {
        PoloSeason x = Seasons.drawn(Seasons.teams(0, 0), 4);
        x.pony(0);
        x.pony(7);
        return x;
    }

    private void goalsAndNoneNext() {
        check.about("12, IllegalArgumentException before IllegalStateException");
        for (PoloSeason x : withoutNext()) {
            check.argument("play(-1, 0)", () -> x.play(-1, 0));
            check.argument("play(0, -1)", () -> x.play(0, -1));
            check.argument("play(51, 0)", () -> x.play(51, 0));
            check.argument("play(0, 51)", () -> x.play(0, 51));
        }
    }

    private void noneNextToPlay() {
        check.about("12, IllegalStateException: none is next");
        for (int i = 0; i < withoutNext().length; i++) {
            int which = i;
            check.state("play(1, 0), season " + i, () -> withoutNext()[which], x -> x.play(1, 0));
            check.state("play(0, 0), season " + i, () -> withoutNext()[which], x -> x.play(0, 0));
            check.state("play(50, 50), season " + i, () -> withoutNext()[which], x -> x.play(50, 50));
        }
    }

    private void asManyEach() {
        check.about("12, NONE, and nothing changes: as many each");
        for (int goals = 0; goals <= 50; goals++) {
            int each = goals;
            check.keeps("play(" + goals + ", " + goals + ")", -1, MatchEdgesTest::withPonies, x -> x.play(each, each));
        }
        check.keeps("play(0, 4), 8 halves given", -1, () -> given(8), x -> x.play(0, 4));
        check.keeps("play(46, 50), 8 halves given", -1, () -> given(8), x -> x.play(46, 50));
        check.keeps("play(4, 0), 8 halves given to the other", -1, () -> givenToTheOther(8), x -> x.play(4, 0));
        check.keeps("play(2, 2), second match of a round", -1, () -> {
            PoloSeason x = Seasons.drawn(Seasons.teams(0, 0, 0, 0), 6);
            x.play(1, 0);
            return x;
        }, x -> x.play(2, 2));
        check.keeps("play(2, 2), the last match", -1, () -> {
            PoloSeason x = Seasons.drawn(Seasons.teams(0, 0), 6);
            x.play(1, 0);
            return x;
        }, x -> x.play(2, 2));
        PoloSeason x = withPonies();
        x.play(3, 3);
        check.same("play(3, 4): the match is still next", x.play(3, 4), 1);
        check.same("count(4)", x.count(4), 1);
    }

    /** A difference of so many in 6 CHUKKAS gives twice as many halves: the first team of the next match gets them. */
    private static PoloSeason given(int halves) {
        PoloSeason x = Seasons.teams(0, 0);
        rateAbove(x, 0, 8);
        rateAbove(x, 1, 8 + halves / 2);
        Seasons.drawn(x, 6);
        x.pony(0);
        return x;
    }

    private static PoloSeason givenToTheOther(int halves) {
        PoloSeason x = Seasons.teams(0, 0);
        rateAbove(x, 1, 8);
        rateAbove(x, 0, 8 + halves / 2);
        Seasons.drawn(x, 6);
        x.pony(0);
        return x;
    }

    private void halfAGoalDecides() {
        check.about("12, the TEAM that won (with what is GIVEN)");
        PoloSeason half = Seasons.teams(0, 0);
        half.rate(4, 1);
        Seasons.drawn(half, 4);
        check.same("given(0)", half.given(0), 1);
        check.same("play(0, 0), half a goal given", half.play(0, 0), 0);
        check.same("where(1)", half.where(1), 2);
        check.same("play(49, 50), half a goal given", half.play(49, 50), 1);
        check.same("given(8): play(0, 3)", given(8).play(0, 3), 0);
        check.same("given(8): play(0, 5)", given(8).play(0, 5), 1);
        check.same("given to the other: play(3, 0)", givenToTheOther(8).play(3, 0), 1);
        check.same("given to the other: play(5, 0)", givenToTheOther(8).play(5, 0), 0);
        PoloSeason most = Seasons.drawn(Seasons.teams(-2, 10), 6);
        check.same("play(0, 50), 48 goals given", most.play(0, 50), 1);
        PoloSeason equal = Seasons.drawn(Seasons.teams(-2, 10), 6);
        check.same("play(2, 50), 48 goals given", equal.play(2, 50), -1);
        check.same("play(3, 50), 48 goals given", equal.play(3, 50), 0);
    }

    private void notInIt() {
        check.about("13, 0: not in it");
        PoloSeason x = Seasons.teams(0, 0, 0, 0);
        x.cup(0, 4);
        x.enter(1);
        x.enter(2);
        x.noise(1);
        x.draw();
        int[] drawn = {0, 1, 1, 0};
        int[] second = {0, 1, 2, 0};
        int[] won = {0, 4, 3, 0};
        wheresAre(x, drawn);
        x.play(1, 0);
        wheresAre(x, second);
        x.play(1, 0);
        wheresAre(x, won);
        check.same("where, a TEAM made behind the draw", whereOfALateTeam(), 0);
    }

    private static int whereOfALateTeam() {
        PoloSeason x = Seasons.drawn(Seasons.teams(0, 0), 4);
        for (int i = 0; i < 4; i++) {
            x.player(0);
        }
        return x.where(x.team(8, 9, 10, 11));
    }

    private void wheresAre(PoloSeason x, int... due) {
        for (int team = 0; team < due.length; team++) {
            check.same("where(" + team + ")", x.where(team), due[team]);
        }
    }

    private void notDrawn() {
        check.about("13, 0: it isn't DRAWN");
        wheresAre(Seasons.teams(new int[8]), new int[8]);
        wheresAre(Seasons.entered(Seasons.teams(new int[8]), 4), new int[8]);
        PoloSeason x = Seasons.won(Seasons.teams(0, 0), 4);
        x.cup(0, 4);
        wheresAre(x, 0, 0);
        x.enter(0);
        wheresAre(x, 0, 0);
    }

    private void whereAtTheBeginning() {
        check.about("13, at the ROUND's beginning; who lost in this ROUND as it was");
        PoloSeason x = Seasons.drawn(Seasons.teams(0, 0, 0, 0), 4);
        wheresAre(x, 1, 1, 1, 1);
        x.play(0, 1);
        wheresAre(x, 1, 1, 1, 1);
        x.play(0, 1);
        wheresAre(x, 2, 1, 2, 1);
        x.play(0, 1);
        wheresAre(x, 2, 1, 2, 1);
        x.play(0, 1);
        wheresAre(x, 3, 2, 2, 1);
        x.play(0, 1);
        wheresAre(x, 3, 2, 3, 1);
        x.play(0, 1);
        wheresAre(x, 3, 2, 3, 2);
        x.play(0, 1);
        wheresAre(x, 3, 3, 3, 4);
        check.same("count(4)", x.count(4), 7);
        check.same("count(5)", x.count(5), 5);
    }

    private void noSuchTeam() {
        check.about("13, IndexOutOfBoundsException: no such TEAM");
        for (int team : new int[] {-1, 2, Integer.MIN_VALUE, Integer.MAX_VALUE}) {
            check.index("where(" + team + "), no cup", () -> Seasons.teams(0, 0), x -> x.where(team));
            check.index("where(" + team + "), drawn", () -> Seasons.drawn(Seasons.teams(0, 0), 4), x -> x.where(team));
            check.index("where(" + team + "), won", () -> Seasons.won(Seasons.teams(0, 0), 4), x -> x.where(team));
        }
        check.index("where(8), of 8", () -> Seasons.drawn(Seasons.full(), 4), x -> x.where(8));
        check.same("where(7), of 8", Seasons.drawn(Seasons.full(), 4).where(7), 1);
    }

    private void rowsEnds() {
        check.about("14, the k-th TEAM of a row; NONE");
        for (int teams = 2; teams <= 8; teams++) {
            PoloSeason x = Seasons.drawn(Seasons.teams(new int[teams]), 4);
            rowEnds(x, 0, teams);
            rowEnds(x, 1, 0);
            for (int match = 0; match < teams / 2; match++) {
                rowEnds(x, 0, teams);
                rowEnds(x, 1, 0);
                x.play(1, 0);
            }
            rowEnds(x, 0, teams - teams / 2);
            rowEnds(x, 1, teams / 2);
        }
        PoloSeason won = Seasons.won(Seasons.teams(0, 0), 4);
        rowEnds(won, 0, 1);
        rowEnds(won, 1, 0);
        rowEnds(Seasons.entered(Seasons.teams(0, 0), 4), 0, 0);
        rowEnds(Seasons.entered(Seasons.teams(0, 0), 4), 1, 0);
    }

    private void rowEnds(PoloSeason x, int which, int length) {
        for (int k : new int[] {Integer.MIN_VALUE, -1, length, length + 1, 8, Integer.MAX_VALUE}) {
            check.same("row(" + which + ", " + k + ") of " + length, x.row(which, k), -1);
        }
        if (length > 0) {
            check.yes("row(" + which + ", 0) of " + length, x.row(which, 0) >= 0);
            check.yes("row(" + which + ", " + (length - 1) + ") of " + length, x.row(which, length - 1) >= 0);
        }
    }

    private void lastOneRests() {
        check.about("Terms, a last one alone rests");
        PoloSeason x = Seasons.drawn(Seasons.teams(0, 0, 0), 4);
        plays(x, 0, 1, 0);
        wheresAre(x, 1, 2, 1);
        check.same("row(0, 1): it lies where it lay", x.row(0, 1), 2);
        plays(x, 0, 2, 0);
        check.same("row(1, 0)", x.row(1, 0), 1);
        check.same("row(1, 1): the loser at the end", x.row(1, 1), 2);
        plays(x, 1, 2, 1);
        plays(x, 0, 1, 0);
        wheresAre(x, 4, 3, 3);
    }

    private void plays(PoloSeason x, int first, int second, int winner) {
        check.same("next(0)", x.next(0), first);
        check.same("next(1)", x.next(1), second);
        check.same("play", x.play(winner == first ? 1 : 0, winner == first ? 0 : 1), winner);
    }

    private void oneOfEach() {
        check.about("Terms, if WHOLE and HURT have one TEAM each, these two play");
        PoloSeason x = Seasons.drawn(Seasons.teams(0, 0), 4);
        plays(x, 0, 1, 1);
        check.same("row(0, 0)", x.row(0, 0), 1);
        check.same("row(1, 0)", x.row(1, 0), 0);
        plays(x, 1, 0, 0);
        check.same("row(0, 0): nobody is whole", x.row(0, 0), -1);
        check.same("row(1, 0)", x.row(1, 0), 0);
        check.same("row(1, 1): who lost from WHOLE goes to the end", x.row(1, 1), 1);
        plays(x, 0, 1, 1);
        wheresAre(x, 3, 4);
        check.same("count(4)", x.count(4), 3);
        check.same("count(5)", x.count(5), 3);
    }

    /** All outcomes of cups of 2 to 8 teams: each team but the winner loses twice, the winner once at most. */
    private void everyCup() {
        check.about("Terms, when one TEAM alone is left it has WON the CUP");
        for (int teams = 2; teams <= 8; teams++) {
            for (int outcome = 0; outcome < 1 << 2 * teams - 1; outcome++) {
                oneCup(teams, outcome);
            }
        }
    }

    private void oneCup(int teams, int outcome) {
        PoloSeason x = Seasons.drawn(Seasons.teams(new int[teams]), 4);
        List<Integer> whole = new ArrayList<>();
        List<Integer> hurt = new ArrayList<>();
        for (int team = 0; team < teams; team++) {
            whole.add(team);
        }
        int matches = 0;
        int rounds = 0;
        while (whole.size() + hurt.size() > 1) {
            List<Integer> beaten = new ArrayList<>();
            for (int[] match : matchesOf(whole, hurt)) {
                boolean firstWins = (outcome >> matches & 1) == 0;
                plays(x, match[0], match[1], firstWins ? match[0] : match[1]);
                beaten.add(firstWins ? match[1] : match[0]);
                matches++;
            }
            hurt.removeAll(beaten);
            beaten.retainAll(whole);
            whole.removeAll(beaten);
            hurt.addAll(beaten);
            rounds++;
        }
        for (int team = 0; team < teams; team++) {
            check.same("where(" + team + "), outcome " + outcome, x.where(team), whole.contains(team) || hurt.contains(team) ? 4 : 3);
        }
        check.same("next(0), outcome " + outcome, x.next(0), -1);
        check.same("count(4), outcome " + outcome, x.count(4), matches);
        check.same("count(5), outcome " + outcome, x.count(5), rounds);
        check.yes("each loses twice but the winner", matches == 2 * teams - 2 + (whole.isEmpty() ? 1 : 0));
    }

    private static List<int[]> matchesOf(List<Integer> whole, List<Integer> hurt) {
        if (whole.size() == 1 && hurt.size() == 1) {
            return List.of(new int[] {whole.get(0), hurt.get(0)});
        }
        List<int[]> matches = new ArrayList<>();
        for (List<Integer> row : List.of(whole, hurt)) {
            for (int i = 0; i + 1 < row.size(); i += 2) {
                matches.add(new int[] {row.get(i), row.get(i + 1)});
            }
        }
        return matches;
    }
}

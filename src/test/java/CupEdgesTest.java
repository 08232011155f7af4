/** The boundary cases of promises 6 to 9 (cup, enter, noise, draw), a method for each sentence that names one. */
public final class CupEdgesTest {
    private final Check check = new Check();

    public static void main(String[] args) {
        CupEdgesTest test = new CupEdgesTest();
        test.limit();
        test.chukkas();
        test.limitAndChukkasWrong();
        test.elderCupIsGone();
        test.howManyAreInIt();
        test.itIsInIt();
        test.strengthIsAboveLimit();
        test.firstOfThese();
        test.noCupToEnter();
        test.drawnCupToEnter();
        test.noSuchTeamToEnter();
        test.noiseIsFull();
        test.noiseTakesAnyNumber();
        test.fewerThanTwo();
        test.fewerNumbers();
        test.noiseIsEmptyThen();
        test.noCupToDraw();
        test.drawnAlready();
        test.numbersWithoutSign();
        test.everyPlaceChanges();
        test.check.finish("CupEdgesTest");
    }

    private void limit() {
        check.about("6, IllegalArgumentException: LIMIT is not 0 to 40");
        for (int limit = 0; limit <= 40; limit++) {
            PoloSeason x = Seasons.teams(0);
            x.cup(limit, 4);
            for (int player = 0, left = limit; player < 4; player++) {
                int handicap = Math.min(10, left);
                x.rate(player, handicap);
                left -= handicap;
            }
            check.same("enter(0), at LIMIT " + limit, x.enter(0), 1);
        }
        for (int limit : new int[] {-1, 41, Integer.MIN_VALUE, Integer.MAX_VALUE}) {
            refusedInEveryState("cup(" + limit + ", 4)", limit, 4);
        }
    }

    private void chukkas() {
        check.about("6, IllegalArgumentException: CHUKKAS are not 4 to 6");
        for (int chukkas = 4; chukkas <= 6; chukkas++) {
            PoloSeason x = Seasons.drawn(Seasons.teams(0, 0), chukkas);
            x.play(1, 0);
            check.same("afoot(), " + chukkas + " chukkas", x.afoot(), 8 * chukkas);
        }
        for (int chukkas : new int[] {3, 7, 0, -4, Integer.MIN_VALUE, Integer.MAX_VALUE}) {
            refusedInEveryState("cup(40, " + chukkas + ")", 40, chukkas);
        }
    }

    private void limitAndChukkasWrong() {
        check.about("6, IllegalArgumentException: LIMIT, CHUKKAS (both)");
        for (int limit : new int[] {-1, 41}) {
            for (int chukkas : new int[] {3, 7}) {
                refusedInEveryState("cup(" + limit + ", " + chukkas + ")", limit, chukkas);
            }
        }
    }

    private void refusedInEveryState(String call, int limit, int chukkas) {
        check.argument(call + ", no cup", () -> Seasons.teams(0, 0), x -> Seasons.cup(x, limit, chukkas));
        check.argument(call + ", entered", () -> Seasons.entered(Seasons.teams(0, 0), 5), x -> Seasons.cup(x, limit, chukkas));
        check.argument(call + ", drawn", () -> Seasons.drawn(Seasons.teams(0, 0), 5), x -> Seasons.cup(x, limit, chukkas));
        check.argument(call + ", won", () -> Seasons.won(Seasons.teams(0, 0), 5), x -> Seasons.cup(x, limit, chukkas));
        PoloSeason none = Seasons.teams(0);
        check.argument(call, () -> Seasons.cup(none, limit, chukkas));
        check.state("enter(0): a refused cup is none", () -> none.enter(0));
        PoloSeason elder = Seasons.teams(1, 1);
        elder.cup(4, 5);
        check.argument(call, () -> Seasons.cup(elder, limit, chukkas));
        check.same("enter(0): the elder LIMIT", elder.enter(0), 1);
        elder.rate(4, 2);
        check.same("enter(1): the elder LIMIT", elder.enter(1), -2);
    }

    private void elderCupIsGone() {
        check.about("6, what was of an elder one is gone");
        PoloSeason[] elders = {new PoloSeason(), Seasons.entered(Seasons.full(), 6), Seasons.drawn(Seasons.full(), 6),
            withinARound(), withinTheSecondRound(), Seasons.won(Seasons.teams(0, 0, 0), 6)};
        for (PoloSeason x : elders) {
            int afoot = x.afoot();
            x.cup(0, 4);
            for (int what = 3; what <= 5; what++) {
                check.same("count(" + what + ")", x.count(what), 0);
            }
            for (int which = 0; which <= 1; which++) {
                check.same("next(" + which + ")", x.next(which), -1);
                check.same("given(" + which + ")", x.given(which), -1);
                check.same("row(" + which + ", 0)", x.row(which, 0), -1);
            }
            for (int team = 0; team < x.count(1); team++) {
                check.same("where(" + team + ")", x.where(team), 0);
            }
            check.same("draw()", x.draw(), -1);
            check.state("play(1, 0)", () -> x.play(1, 0));
            check.same("afoot() is of all matches", x.afoot(), afoot);
            for (int team = 0; team < x.count(1); team++) {
                check.same("enter(" + team + ")", x.enter(team), team + 1);
            }
        }
        PoloSeason again = withinTheSecondRound();
        Seasons.drawn(again, 4);
        rowIs(again, inOrder(4));
        check.same("next(0), drawn again", again.next(0), 0);
        check.same("next(1), drawn again", again.next(1), 1);
        check.same("count(4), drawn again", again.count(4), 0);
        check.same("count(5), drawn again", again.count(5), 1);
    }

    private static PoloSeason withinARound() {
        PoloSeason x = Seasons.drawn(Seasons.teams(0, 0, 0, 0), 6);
        x.play(1, 0);
        return x;
    }

    private static PoloSeason withinTheSecondRound() {
        PoloSeason x = withinARound();
        x.play(1, 0);
        x.play(0, 1);
        return x;
    }

    private void howManyAreInIt() {
        check.about("7, a TEAM enters: how many are in it");
        PoloSeason x = Seasons.teams(new int[8]);
        x.cup(0, 4);
        for (int i = 0; i < 8; i++) {
            check.same("enter(" + (7 - i) + ")", x.enter(7 - i), i + 1);
            check.same("count(3)", x.count(3), i + 1);
        }
        check.same("count(3), full", x.count(3), 8);
    }

    private void itIsInIt() {
        check.about("7, -1: it is in it");
        for (int team = 0; team < 8; team++) {
            int again = team;
            check.keeps("enter(" + team + ") again", -1, () -> Seasons.entered(Seasons.teams(new int[8]), 4), x -> x.enter(again));
        }
    }

    private void strengthIsAboveLimit() {
        check.about("7, -2: its STRENGTH is above LIMIT");
        check.same("STRENGTH -8, LIMIT 0", enterWith(-2, 0), 1);
        for (int limit = 0; limit <= 39; limit++) {
            int limitNow = limit;
            check.keeps("STRENGTH one above LIMIT " + limit, -2, () -> ratedTo(limitNow + 1, limitNow), x -> x.enter(0));
            check.same("STRENGTH at LIMIT " + limit, ratedTo(limit, limit).enter(0), 1);
        }
        check.same("STRENGTH 40, LIMIT 40", enterWith(10, 40), 1);
        check.same("STRENGTH 40, LIMIT 0", enterWith(10, 0), -2);
        PoloSeason x = ratedTo(5, 4);
        check.same("enter(0), above", x.enter(0), -2);
        x.rate(0, 4);
        check.same("enter(0), rated down", x.enter(0), 1);
        x.rate(0, 10);
        check.same("count(3): rated up within it stays", x.count(3), 1);
    }

    private static int enterWith(int handicap, int limit) {
        PoloSeason x = Seasons.teams(handicap);
        x.cup(limit, 4);
        return x.enter(0);
    }

    private static PoloSeason ratedTo(int strength, int limit) {
        PoloSeason x = Seasons.teams(0);
        for (int player = 0, left = strength; player < 4; player++) {
            int handicap = Math.min(10, left);
            x.rate(player, handicap);
            left -= handicap;
        }
        x.cup(limit, 4);
        return x;
    }

    private void firstOfThese() {
        check.about("7, the first of these");
        PoloSeason x = Seasons.teams(1);
        x.cup(4, 4);
        x.enter(0);
        x.rate(0, 10);
        check.same("enter(0), in it and above", x.enter(0), -1);
    }

    private void noCupToEnter() {
        check.about("7, IllegalStateException: there is no CUP");
        check.state("enter(0)", () -> Seasons.teams(0), x -> x.enter(0));
        check.state("enter(0), above every LIMIT", () -> Seasons.teams(10), x -> x.enter(0));
    }

    private void drawnCupToEnter() {
        check.about("7, IllegalStateException: it is DRAWN");
        for (int team = 0; team < 3; team++) {
            int late = team;
            check.state("enter(" + team + "), drawn", CupEdgesTest::twoOfThreeDrawn, x -> x.enter(late));
            check.state("enter(" + team + "), won", CupEdgesTest::twoOfThreeWon, x -> x.enter(late));
        }
        check.state("enter(2), above LIMIT", () -> {
            PoloSeason x = twoOfThreeDrawn();
            x.rate(11, 10);
            return x;
        }, x -> x.enter(2));
    }

    private static PoloSeason twoOfThreeDrawn() {
        PoloSeason x = Seasons.teams(0, 0, 0);
        x.cup(0, 4);
        x.enter(0);
        x.enter(1);
        x.noise(1);
        x.draw();
        return x;
    }

    private static PoloSeason twoOfThreeWon() {
        PoloSeason x = twoOfThreeDrawn();
        x.play(1, 0);
        x.play(1, 0);
        return x;
    }

    private void noSuchTeamToEnter() {
        check.about("7, IndexOutOfBoundsException: no such TEAM");
        for (int team : new int[] {-1, 3, 8, Integer.MIN_VALUE, Integer.MAX_VALUE}) {
            check.index("enter(" + team + "), no cup", () -> Seasons.teams(0, 0, 0), x -> x.enter(team));
            check.index("enter(" + team + "), entered", () -> Seasons.entered(Seasons.teams(0, 0, 0), 4), x -> x.enter(team));
            check.index("enter(" + team + "), drawn", CupEdgesTest::twoOfThreeDrawn, x -> x.enter(team));
        }
        check.index("enter(8), of 8", () -> Seasons.entered(Seasons.full(), 4), x -> x.enter(8));
    }

    private void noiseIsFull() {
        check.about("8, NONE, doing nothing: there are 20");
        for (int many = 0; many < 20; many++) {
            PoloSeason x = noisy(new PoloSeason(), many);
            check.same("noise(3), with " + many, x.noise(3), many + 1);
            check.same("count(7)", x.count(7), many + 1);
        }
        for (int v : new int[] {0, -1, 5, Integer.MIN_VALUE, Integer.MAX_VALUE}) {
            check.keeps("noise(" + v + "), the 21st", -1, () -> noisy(new PoloSeason(), 20), x -> x.noise(v));
        }
        // The numbers 0 to 19 and no other: each place takes what was told for it, from the first on.
        PoloSeason x = noisy(Seasons.entered(Seasons.teams(new int[8]), 4), 20);
        for (int more = 0; more < 30; more++) {
            check.same("noise(" + more + "), beyond 20", x.noise(100 + more), -1);
        }
        check.same("draw()", x.draw(), 8);
        rowIs(x, shuffled(8, new long[] {0, 1, 2, 3, 4, 5, 6}));
        check.same("noise(9), empty again", x.noise(9), 1);
    }

    /** With the numbers 0, 1, 2 and so on. */
    private static PoloSeason noisy(PoloSeason x, int many) {
        for (int i = 0; i < many; i++) {
            x.noise(i);
        }
        return x;
    }

    private void noiseTakesAnyNumber() {
        check.about("8, a number of NOISE: how many there are");
        PoloSeason x = new PoloSeason();
        int[] any = {0, 1, -1, Integer.MAX_VALUE, Integer.MIN_VALUE, Integer.MIN_VALUE + 1};
        for (int i = 0; i < any.length; i++) {
            check.same("noise(" + any[i] + ")", x.noise(any[i]), i + 1);
        }
        PoloSeason drawn = Seasons.drawn(Seasons.teams(0, 0), 4);
        check.same("noise(1), drawn", drawn.noise(1), 1);
        PoloSeason won = Seasons.won(Seasons.teams(0, 0), 4);
        check.same("noise(1), won", won.noise(1), 1);
    }

    private void fewerThanTwo() {
        check.about("9, -1: there are fewer than 2");
        for (int many = 0; many <= 1; many++) {
            int teams = many;
            check.keeps("draw(), " + many + " teams", -1, () -> Seasons.entered(Seasons.teams(new int[teams]), 4), PoloSeason::draw);
            check.keeps("draw(), " + many + " teams, full noise", -1,
                    () -> noisy(Seasons.entered(Seasons.teams(new int[teams]), 4), 20), PoloSeason::draw);
            PoloSeason x = Seasons.entered(Seasons.teams(new int[teams]), 4);
            x.draw();
            check.same("draw() again: it is not drawn", x.draw(), -1);
        }
        check.same("draw(), 2 teams", noisy(Seasons.entered(Seasons.teams(0, 0), 4), 1).draw(), 2);
    }

    private void fewerNumbers() {
        check.about("9, -2: NOISE has fewer numbers than TEAMS less one");
        for (int many = 2; many <= 8; many++) {
            int teams = many;
            for (int numbers = 0; numbers < teams - 1; numbers++) {
                int told = numbers;
                check.keeps("draw(), " + teams + " teams, " + told + " numbers", -2,
                        () -> noisy(Seasons.entered(Seasons.teams(new int[teams]), 4), told), PoloSeason::draw);
            }
            PoloSeason x = noisy(Seasons.entered(Seasons.teams(new int[teams]), 4), teams - 2);
            check.same("draw()", x.draw(), -2);
            x.noise(teams - 2);
            check.same("draw(), one number more", x.draw(), teams);
            check.same("draw(), 20 numbers", noisy(Seasons.entered(Seasons.teams(new int[teams]), 4), 20).draw(), teams);
        }
    }

    private void noiseIsEmptyThen() {
        check.about("9, NOISE is empty then");
        for (int numbers : new int[] {7, 8, 20}) {
            PoloSeason x = noisy(Seasons.entered(Seasons.teams(new int[8]), 4), numbers);
            x.draw();
            check.same("count(7), of " + numbers, x.count(7), 0);
            check.same("noise(1)", x.noise(1), 1);
        }
    }

    private void noCupToDraw() {
        check.about("9, IllegalStateException: there is no CUP");
        check.state("draw()", PoloSeason::new, PoloSeason::draw);
        check.state("draw(), full", () -> noisy(Seasons.full(), 20), PoloSeason::draw);
    }

    private void drawnAlready() {
        check.about("9, IllegalStateException: it is DRAWN");
        check.state("draw(), drawn", () -> noisy(Seasons.drawn(Seasons.teams(0, 0), 4), 20), PoloSeason::draw);
        check.state("draw(), within a round", () -> noisy(withinARound(), 20), PoloSeason::draw);
        check.state("draw(), won", () -> noisy(Seasons.won(Seasons.teams(0, 0), 4), 20), PoloSeason::draw);
    }

    private void numbersWithoutSign() {
        check.about("Terms, the number without sign: 0 to 4,294,967,295");
        long[] numbers = {0, 1, 2147483646L, 2147483647L, 2147483648L, 2147483649L, 4294967294L, 4294967295L};
        for (int many = 2; many <= 8; many++) {
            for (long first : numbers) {
                long[] told = new long[many - 1];
                for (int i = 0; i < told.length; i++) {
                    told[i] = i == 0 ? first : numbers[(int) ((first + 3 * i) % numbers.length)];
                }
                rowIs(drawnBy(many, told), shuffled(many, told));
            }
        }
    }

    private void everyPlaceChanges() {
        check.about("Terms, place i changes with what the number leaves by i + 1");
        for (int many = 2; many <= 8; many++) {
            for (int i = many - 1; i >= 1; i--) {
                for (int left = 0; left <= i + 1; left++) {
                    long[] told = new long[many - 1];
                    for (int place = many - 1; place >= 1; place--) {
                        told[many - 1 - place] = place == i ? left : place;
                    }
                    int[] due = inOrder(many);
                    due[i] = left % (i + 1);
                    due[left % (i + 1)] = i;
                    rowIs(drawnBy(many, told), due);
                }
            }
        }
    }

    private static PoloSeason drawnBy(int many, long[] told) {
        PoloSeason x = Seasons.entered(Seasons.teams(new int[many]), 4);
        for (long number : told) {
            x.noise((int) number);
        }
        x.draw();
        return x;
    }

    private static int[] inOrder(int many) {
        int[] row = new int[many];
        for (int i = 0; i < many; i++) {
            row[i] = i;
        }
        return row;
    }

    private static int[] shuffled(int many, long[] told) {
        int[] row = inOrder(many);
        for (int used = 0; used < many - 1; used++) {
            int i = many - 1 - used;
            int j = (int) (told[used] % (i + 1));
            int team = row[i];
            row[i] = row[j];
            row[j] = team;
        }
        return row;
    }

    private void rowIs(PoloSeason x, int[] due) {
        for (int k = 0; k < 8; k++) {
            check.same("row(0, " + k + ") of " + due.length, x.row(0, k), k < due.length ? due[k] : -1);
            check.same("row(1, " + k + ") of " + due.length, x.row(1, k), -1);
        }
        check.same("count(3)", x.count(3), due.length);
    }
}

/** The boundary cases of promises 15 to 20 (pony, lame, told, mount, afoot, rest), a method for each sentence that names one. */
public final class PonyEdgesTest {
    private final Check check = new Check();

    public static void main(String[] args) {
        PonyEdgesTest test = new PonyEdgesTest();
        test.sixtyPonies();
        test.eightOfOnePlayer();
        test.ponyOfNoPlayer();
        test.lameOnThatDayItIsNot();
        test.dayOfLameness();
        test.noSuchPonyIsLame();
        test.anotherWhat();
        test.noSuchPonyIsTold();
        test.chukkasOfMount();
        test.chukkaOfMount();
        test.mountOfNoPlayer();
        test.noneToMount();
        test.twiceADay();
        test.sideBySide();
        test.sideBySideOfOneMatchAlone();
        test.notWhileItIsLame();
        test.noneBehindAll();
        test.ledEvenly();
        test.afootEachPlayerCounted();
        test.dayHundredThousand();
        test.check.finish("PonyEdgesTest");
    }

    private static PoloSeason ponies(int... owners) {
        PoloSeason x = Seasons.teams(0, 0);
        for (int owner : owners) {
            x.pony(owner);
        }
        return x;
    }

    private void mountsAre(PoloSeason x, int player, int... due) {
        for (int chukka = 0; chukka < due.length; chukka++) {
            String call = "mount(" + player + ", " + due.length + ", " + chukka + ")";
            check.same(call, x.mount(player, due.length, chukka), due[chukka]);
        }
    }

    private void toldIs(PoloSeason x, int pony, int led, int today) {
        check.same("told(" + pony + ", 1)", x.told(pony, 1), led);
        check.same("told(" + pony + ", 2)", x.told(pony, 2), today);
    }

    private void sixtyPonies() {
        check.about("15, IllegalStateException: there are 60 PONIES");
        PoloSeason x = Seasons.players(32);
        for (int i = 0; i < 60; i++) {
            check.same("pony, with " + i, x.pony(i % 32), i);
            check.same("count(2)", x.count(2), i + 1);
        }
        for (int player = 0; player < 32; player++) {
            int owner = player;
            check.state("pony(" + player + "), the 61st", () -> x.pony(owner));
        }
        check.state("pony(31), the 61st", Seasons::full, y -> y.pony(31));
        check.state("pony(0), the 61st and the ninth of it", Seasons::full, y -> y.pony(0));
        check.index("pony(32), the 61st", Seasons::full, y -> y.pony(32));
        check.index("pony(-1), the 61st", Seasons::full, y -> y.pony(-1));
    }

    private void eightOfOnePlayer() {
        check.about("15, IllegalStateException: there are 8 of this PLAYER");
        check.state("pony(1), the ninth of it", PonyEdgesTest::eightOfTheSecond, x -> x.pony(1));
        PoloSeason x = eightOfTheSecond();
        check.same("told(7, 0), the eighth of it", x.told(7, 0), 1);
        check.state("pony(1)", () -> x.pony(1));
        check.same("pony(0): a refused one took no number", x.pony(0), 8);
        check.same("pony(2)", x.pony(2), 9);
        check.state("pony(1), again", () -> x.pony(1));
        check.same("count(2)", x.count(2), 10);
        PoloSeason mixed = Seasons.players(3);
        for (int i = 0; i < 24; i++) {
            check.same("pony, three players in turn", mixed.pony(i % 3), i);
        }
        for (int player = 0; player < 3; player++) {
            int owner = player;
            check.state("pony(" + player + "), the ninth of it", () -> mixed.pony(owner));
        }
    }

    private static PoloSeason eightOfTheSecond() {
        PoloSeason x = Seasons.players(3);
        for (int i = 0; i < 8; i++) {
            x.pony(1);
        }
        return x;
    }

    private void ponyOfNoPlayer() {
        check.about("15, IndexOutOfBoundsException: no such PLAYER");
        for (int many : new int[] {1, 31, 32}) {
            check.index("pony(-1), of " + many, () -> Seasons.players(many), x -> x.pony(-1));
            check.index("pony, beyond " + many, () -> Seasons.players(many), x -> x.pony(many));
            check.same("pony, the last of " + many, Seasons.players(many).pony(many - 1), 0);
        }
        for (int player : Seasons.FAR) {
            check.index("pony(" + player + ")", () -> Seasons.players(32), x -> x.pony(player));
        }
    }

    private void lameOnThatDayItIsNot() {
        check.about("16, LAME till a DAY (on that DAY it is not): true, if it is LAME today by that");
        for (int day = 0; day <= 3; day++) {
            for (int till = 0; till <= 5; till++) {
                PoloSeason x = ponies(0);
                for (int i = 0; i < day; i++) {
                    x.rest();
                }
                check.same("lame(0, " + till + ") on day " + day, Seasons.lame(x, 0, till), till > day ? 1 : 0);
                mountsAre(x, 0, till > day ? -1 : 0);
                for (int later = day + 1; later <= 6; later++) {
                    x.rest();
                    mountsAre(x, 0, till > later ? -1 : 0);
                }
            }
        }
        PoloSeason x = ponies(0, 0);
        check.same("lame(0, 2)", Seasons.lame(x, 0, 2), 1);
        mountsAre(x, 0, 1);
        check.same("lame(0, 0): an earlier DAY in its place", Seasons.lame(x, 0, 0), 0);
        mountsAre(x, 0, 0);
    }

    private void dayOfLameness() {
        check.about("16, IllegalArgumentException: the DAY is not 0 to 100,000");
        check.same("lame(0, 0)", Seasons.lame(ponies(0), 0, 0), 0);
        check.same("lame(0, 1)", Seasons.lame(ponies(0), 0, 1), 1);
        check.same("lame(0, 99999)", Seasons.lame(ponies(0), 0, 99999), 1);
        check.same("lame(0, 100000)", Seasons.lame(ponies(0), 0, 100000), 1);
        for (int till : new int[] {-1, 100001, Integer.MIN_VALUE, Integer.MAX_VALUE}) {
            check.argument("lame(0, " + till + ")", () -> ponies(0), x -> Seasons.lame(x, 0, till));
            check.argument("lame(0, " + till + "), lame before", PonyEdgesTest::lamePony, x -> Seasons.lame(x, 0, till));
        }
    }

    private static PoloSeason lamePony() {
        PoloSeason x = ponies(0);
        x.lame(0, 1);
        return x;
    }

    private void noSuchPonyIsLame() {
        check.about("16, IndexOutOfBoundsException: no such PONY");
        for (int pony : new int[] {-1, 2, Integer.MIN_VALUE, Integer.MAX_VALUE}) {
            check.index("lame(" + pony + ", 1)", () -> ponies(0, 7), x -> Seasons.lame(x, pony, 1));
            check.index("lame(" + pony + ", -1)", () -> ponies(0, 7), x -> Seasons.lame(x, pony, -1));
            check.index("lame(" + pony + ", 100001)", () -> ponies(0, 7), x -> Seasons.lame(x, pony, 100001));
        }
        check.same("lame(1, 1)", Seasons.lame(ponies(0, 7), 1, 1), 1);
        check.same("lame(59, 1)", Seasons.lame(Seasons.full(), 59, 1), 1);
        check.index("lame(60, 1)", Seasons::full, x -> Seasons.lame(x, 60, 1));
    }

    private void anotherWhat() {
        check.about("17, IllegalArgumentException: another what");
        PoloSeason x = ponies(0, 7);
        check.same("told(1, 0)", x.told(1, 0), 7);
        check.same("told(1, 1)", x.told(1, 1), 0);
        check.same("told(1, 2)", x.told(1, 2), 0);
        for (int what : new int[] {-1, 3, Integer.MIN_VALUE, Integer.MAX_VALUE}) {
            check.argument("told(1, " + what + ")", () -> ponies(0, 7), y -> y.told(1, what));
        }
    }

    private void noSuchPonyIsTold() {
        check.about("17, IndexOutOfBoundsException: no such PONY");
        for (int pony : new int[] {-1, 2, Integer.MIN_VALUE, Integer.MAX_VALUE}) {
            for (int what = -1; what <= 3; what++) {
                int asked = what;
                check.index("told(" + pony + ", " + what + ")", () -> ponies(0, 7), x -> x.told(pony, asked));
            }
        }
        check.same("told(59, 0)", Seasons.full().told(59, 0), 7);
        check.index("told(60, 0)", Seasons::full, x -> x.told(60, 0));
    }

    private void chukkasOfMount() {
        check.about("18, IllegalArgumentException: CHUKKAS are not 1 to 6");
        for (int chukkas = 1; chukkas <= 6; chukkas++) {
            check.same("mount(0, " + chukkas + ", 0)", ponies(0).mount(0, chukkas, 0), 0);
        }
        for (int chukkas : new int[] {0, 7, -1, Integer.MIN_VALUE, Integer.MAX_VALUE}) {
            check.argument("mount(0, " + chukkas + ", 0)", () -> ponies(0), x -> x.mount(0, chukkas, 0));
            check.argument("mount(0, " + chukkas + ", -1)", () -> ponies(0), x -> x.mount(0, chukkas, -1));
            check.argument("mount(0, " + chukkas + ", 6)", () -> ponies(0), x -> x.mount(0, chukkas, 6));
        }
    }

    private void chukkaOfMount() {
        check.about("18, IllegalArgumentException: no such CHUKKA");
        for (int all = 1; all <= 6; all++) {
            int chukkas = all;
            check.same("mount, the last of " + chukkas, ponies(0, 0, 0).mount(0, chukkas, chukkas - 1), new int[] {0, 1, 2, 2, 2, 2}[chukkas - 1]);
            for (int chukka : new int[] {-1, chukkas, chukkas + 1, Integer.MIN_VALUE, Integer.MAX_VALUE}) {
                check.argument("mount(0, " + chukkas + ", " + chukka + ")", () -> ponies(0, 0, 0), x -> x.mount(0, chukkas, chukka));
            }
        }
    }

    private void mountOfNoPlayer() {
        check.about("18, IndexOutOfBoundsException: no such PLAYER");
        for (int player : new int[] {-1, 8, Integer.MIN_VALUE, Integer.MAX_VALUE}) {
            check.index("mount(" + player + ", 4, 0)", () -> ponies(0), x -> x.mount(player, 4, 0));
            check.index("mount(" + player + ", 0, 0)", () -> ponies(0), x -> x.mount(player, 0, 0));
            check.index("mount(" + player + ", 4, 4)", () -> ponies(0), x -> x.mount(player, 4, 4));
        }
        check.same("mount(31, 1, 0)", Seasons.full().mount(31, 1, 0), -1);
        check.index("mount(32, 1, 0)", Seasons::full, x -> x.mount(32, 1, 0));
    }

    private void noneToMount() {
        check.about("18, NONE: none");
        mountsAre(Seasons.players(1), 0, -1);
        mountsAre(Seasons.players(1), 0, -1, -1, -1, -1, -1, -1);
        mountsAre(ponies(1), 0, -1, -1, -1, -1, -1, -1);
        mountsAre(lamePony(), 0, -1, -1);
        mountsAre(Seasons.full(), 6, 48, 49, 50, 51, 52, 53);
        mountsAre(Seasons.full(), 8, -1, -1, -1, -1, -1, -1);
        PoloSeason eighth = eightOfTheSecond();
        for (int pony = 0; pony < 7; pony++) {
            eighth.lame(pony, 1);
        }
        mountsAre(eighth, 1, 7, -1, 7, -1);
        eighth.lame(7, 1);
        mountsAre(eighth, 1, -1, -1, -1, -1);
        check.keeps("mount(0, 6, 0) changes nothing", 0, () -> ponies(0, 0, 0), x -> x.mount(0, 6, 0));
    }

    private void twiceADay() {
        check.about("Terms, a PONY plays twice a DAY at most");
        mountsAre(ponies(0), 0, 0, -1, 0, -1, -1, -1);
        PoloSeason x = Seasons.drawn(ponies(0), 6);
        toldIs(x, 0, 0, 0);
        x.play(1, 0);
        toldIs(x, 0, 14, 2);
        mountsAre(x, 0, -1);
        check.same("afoot()", x.afoot(), 46);
        x.play(0, 1);
        toldIs(x, 0, 14, 2);
        check.same("afoot(), none twice more", x.afoot(), 94);
        x.rest();
        toldIs(x, 0, 14, 0);
        mountsAre(x, 0, 0, -1, 0, -1);
        x.play(1, 0);
        toldIs(x, 0, 28, 2);
        PoloSeason once = Seasons.drawn(ponies(0, 0, 0, 0), 4);
        once.play(1, 0);
        toldIs(once, 3, 7, 1);
        once.lame(0, 9);
        once.lame(1, 9);
        once.lame(2, 9);
        mountsAre(once, 0, 3, -1, -1, -1);
        once.play(0, 1);
        toldIs(once, 3, 14, 2);
        mountsAre(once, 0, -1, -1, -1, -1);
    }

    private void sideBySide() {
        check.about("Terms, not in two CHUKKAS of a MATCH that stand side by side");
        mountsAre(ponies(0), 0, 0);
        mountsAre(ponies(0), 0, 0, -1);
        mountsAre(ponies(0), 0, 0, -1, 0);
        mountsAre(ponies(0, 0), 0, 0, 1);
        mountsAre(ponies(0, 0), 0, 0, 1, 0);
        mountsAre(ponies(0, 0), 0, 0, 1, 0, 1);
        mountsAre(ponies(0, 0), 0, 0, 1, 0, 1, -1);
        mountsAre(ponies(0, 0, 0), 0, 0, 1, 0, 1, 2);
        mountsAre(ponies(0, 0, 0), 0, 0, 1, 0, 2, 1, 2);
        PoloSeason x = onceAndTwiceLeft();
        mountsAre(x, 0, 0, 1);
        mountsAre(x, 0, 1, 0, 1);
        mountsAre(x, 0, 0, 1, -1, 1);
    }

    /** Of player 0's ponies only 0, which has played once today, and 1, which has not, may go; both are led 7. */
    private static PoloSeason onceAndTwiceLeft() {
        PoloSeason x = Seasons.drawn(ponies(0, 0, 0, 0, 0), 4);
        x.lame(0, 1);
        x.play(1, 0);
        x.rest();
        for (int pony = 1; pony <= 4; pony++) {
            x.lame(pony, 9);
        }
        for (int pony = 5; pony <= 7; pony++) {
            x.pony(0);
        }
        x.play(1, 0);
        for (int pony = 5; pony <= 7; pony++) {
            x.lame(pony, 9);
        }
        x.lame(1, 0);
        return x;
    }

    private void sideBySideOfOneMatchAlone() {
        check.about("Terms, of a MATCH: a MATCH's last CHUKKA and the next one's first are not side by side");
        PoloSeason x = Seasons.drawn(ponies(0, 0, 0, 0), 4);
        mountsAre(x, 0, 0, 1, 2, 3);
        x.play(1, 0);
        for (int pony = 0; pony < 3; pony++) {
            x.lame(pony, 1);
        }
        mountsAre(x, 0, 3, -1, -1, -1);
    }

    private void notWhileItIsLame() {
        check.about("Terms, not while it is LAME");
        PoloSeason x = Seasons.drawn(ponies(0), 4);
        x.lame(0, 2);
        x.play(1, 0);
        toldIs(x, 0, 0, 0);
        check.same("afoot(), day 0", x.afoot(), 32);
        Seasons.drawn(x, 4);
        x.rest();
        x.play(1, 0);
        toldIs(x, 0, 0, 0);
        check.same("afoot(), day 1", x.afoot(), 64);
        x.rest();
        x.play(1, 0);
        toldIs(x, 0, 14, 2);
        check.same("afoot(), day 2", x.afoot(), 94);
    }

    private void noneBehindAll() {
        check.about("Terms, the first one, CHUKKA by CHUKKA, by numbers, none behind all");
        mountsAre(ponies(0, 0), 0, 0, 1, 0, 1, -1, -1);
        mountsAre(ponies(1, 0), 0, 1, -1, 1, -1, -1, -1);
        mountsAre(ponies(0, 1, 0, 1, 0), 0, 0, 2, 0, 4);
        mountsAre(ponies(0, 0, 0, 0, 0, 0, 0, 0), 0, 0, 1, 2, 3, 4, 5);
        mountsAre(ponies(0, 0, 0, 0, 0, 0), 0, 0, 1, 2, 3, 4, 5);
        mountsAre(ponies(0, 0, 0, 0, 0), 0, 0, 1, 0, 2, 3, 4);
    }

    private void ledEvenly() {
        check.about("Terms, the least greatest LED of its PONIES, then the least second one, and so on through all");
        PoloSeason x = Seasons.drawn(ponies(0, 0, 0, 0, 0, 0, 0), 6);
        x.play(1, 0);
        mountsAre(x, 0, 0, 1, 2, 3, 4, 6);
        mountsAre(x, 0, 6);
        mountsAre(x, 0, 0, 6);
        mountsAre(x, 0, 0, 1, 6);
        x.rest();
        // 6 alone has not been led: it must go once; going twice would leave 14, as any other does by going once
        mountsAre(x, 0, 6);
        mountsAre(x, 0, 0, 6);
        mountsAre(x, 0, 0, 1, 6);
        x.play(0, 1);
        toldIs(x, 6, 7, 1);
        toldIs(x, 5, 7, 0);
        toldIs(x, 4, 14, 1);
        PoloSeason fresh = Seasons.drawn(ponies(0), 4);
        fresh.play(1, 0);
        fresh.rest();
        fresh.pony(0);
        // 14 and 0 led: 21 and 14 is better than 28 and 7, and 1 can go twice only around 0
        mountsAre(fresh, 0, 1);
        mountsAre(fresh, 0, 0, 1);
        mountsAre(fresh, 0, 1, 0, 1);
        mountsAre(fresh, 0, 0, 1, 0, 1);
    }

    private void afootEachPlayerCounted() {
        check.about("19, how often a PLAYER had none in a CHUKKA, each PLAYER counted");
        check.same("afoot(), no match", Seasons.drawn(Seasons.teams(0, 0), 4).afoot(), 0);
        for (int chukkas = 4; chukkas <= 6; chukkas++) {
            for (int player = 0; player < 8; player++) {
                PoloSeason x = Seasons.drawn(ponies(player), chukkas);
                check.same("afoot(), before", x.afoot(), 0);
                x.play(3, 3);
                check.same("afoot(), as many each", x.afoot(), 0);
                x.play(1, 0);
                check.same("afoot(), one pony of " + player, x.afoot(), 8 * chukkas - 2);
            }
        }
        PoloSeason all = Seasons.teams(0, 0);
        for (int pony = 0; pony < 24; pony++) {
            all.pony(pony / 3);
        }
        Seasons.drawn(all, 6);
        all.play(1, 0);
        check.same("afoot(), three ponies each", all.afoot(), 0);
        all.play(0, 1);
        check.same("afoot(), the same day again", all.afoot(), 48);
        all.cup(0, 4);
        all.rest();
        check.same("afoot(), in all matches together", all.afoot(), 48);
    }

    /** More rests than an object's 512 calls: the document's last DAY can't be come to with fewer. */
    private void dayHundredThousand() {
        check.about("20, IllegalStateException: it is DAY 100,000");
        PoloSeason x = ponies(0);
        boolean wrong = false;
        for (int day = 1; day <= 99999; day++) {
            wrong |= x.rest() != day;
        }
        check.yes("rest() answers the day", !wrong);
        check.same("lame(0, 99999), day 99,999", Seasons.lame(x, 0, 99999), 0);
        check.same("lame(0, 100000), day 99,999", Seasons.lame(x, 0, 100000), 1);
        mountsAre(x, 0, -1);
        check.same("rest(), day 99,999", x.rest(), 100000);
        mountsAre(x, 0, 0);
        check.same("lame(0, 100000), day 100,000", Seasons.lame(x, 0, 100000), 0);
        check.state("rest(), day 100,000", () -> x, PoloSeason::rest);
        check.state("rest(), again", () -> x, PoloSeason::rest);
        check.same("count(6)", x.count(6), 100000);
    }
}

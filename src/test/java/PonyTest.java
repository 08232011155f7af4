/** Promises 15 to 20 and 25: pony, lame, told, mount, afoot, rest, count. */
public final class PonyTest {
    public static void main(String[] args) {
        Check check = new Check();
        limits(check);
        lameness(check);
        telling(check);
        wrongMounts(check);
        mounts(check);
        evenlyLed(check);
        unriddenPoniesCount(check);
        matches(check);
        days(check);
        counts(check);
        check.finish("PonyTest");
    }

    private static PoloSeason players(int many) {
        PoloSeason x = new PoloSeason();
        for (int i = 0; i < many; i++) {
            x.player(0);
        }
        return x;
    }

    /** Two teams of players 0 to 7 in a drawn cup, whose first match is team 0 with team 1. */
    private static PoloSeason drawnTeams(int chukkas) {
        PoloSeason x = players(8);
        x.team(0, 1, 2, 3);
        x.team(4, 5, 6, 7);
        drawAnew(x, chukkas);
        return x;
    }

    private static void drawAnew(PoloSeason x, int chukkas) {
        x.cup(0, chukkas);
        x.enter(0);
        x.enter(1);
        x.noise(1);
        x.draw();
    }

    private static void mountsAre(Check check, PoloSeason x, int player, int... due) {
        for (int chukka = 0; chukka < due.length; chukka++) {
            String call = "mount(" + player + ", " + due.length + ", " + chukka + ")";
            check.same(call, x.mount(player, due.length, chukka), due[chukka]);
        }
    }

    private static void limits(Check check) {
        PoloSeason x = players(9);
        check.index("pony(9)", () -> x.pony(9));
        check.index("pony(-1)", () -> x.pony(-1));
        for (int i = 0; i < 8; i++) {
            check.same("pony(0)", x.pony(0), i);
        }
        check.state("pony(0), the ninth of it", () -> x.pony(0));
        for (int i = 8; i < 60; i++) {
            check.same("pony", x.pony(i / 8), i);
        }
        check.state("pony(8), the 61st", () -> x.pony(8));
        check.index("pony(9), full", () -> x.pony(9));
        check.same("count(2)", x.count(2), 60);
        check.same("rest(), 60 ponies", x.rest(), 1);
        mountsAre(check, x, 0, 0, 1, 2, 3, 4, 5);
        mountsAre(check, x, 7, 56, 57, 56, 57, 58, 59);
        mountsAre(check, x, 8, -1, -1);
    }

    private static void lameness(Check check) {
        PoloSeason x = players(1);
        check.index("lame(0, 1)", () -> x.lame(0, 1) ? 1 : 0);
        x.pony(0);
        check.index("lame(1, -1): the pony first", () -> x.lame(1, -1) ? 1 : 0);
        check.index("lame(-1, 0)", () -> x.lame(-1, 0) ? 1 : 0);
        check.argument("lame(0, -1)", () -> x.lame(0, -1) ? 1 : 0);
        check.argument("lame(0, 100001)", () -> x.lame(0, 100001) ? 1 : 0);
        check.yes("lame(0, 0) is false", !x.lame(0, 0));
        check.yes("lame(0, 100000)", x.lame(0, 100000));
        mountsAre(check, x, 0, -1);
        check.yes("lame(0, 2)", x.lame(0, 2));
        x.rest();
        mountsAre(check, x, 0, -1);
        x.rest();
        mountsAre(check, x, 0, 0);
        check.yes("lame(0, 2) on day 2 is false", !x.lame(0, 2));
        check.yes("lame(0, 3) on day 2", x.lame(0, 3));
        check.argument("lame(0, -1)", () -> x.lame(0, -1) ? 1 : 0);
        mountsAre(check, x, 0, -1);
        check.yes("lame(0, 1) on day 2 is false", !x.lame(0, 1));
        mountsAre(check, x, 0, 0);
    }

    private static void telling(Check check) {
        PoloSeason x = players(2);
        x.pony(1);
        check.same("told(0, 0)", x.told(0, 0), 1);
        check.same("told(0, 1)", x.told(0, 1), 0);
        check.same("told(0, 2)", x.told(0, 2), 0);
        check.argument("told(0, 3)", () -> x.told(0, 3));
        check.argument("told(0, -1)", () -> x.told(0, -1));
        check.index("told(1, 0)", () -> x.told(1, 0));
        check.index("told(-1, 9): the pony first", () -> x.told(-1, 9));
    }

    private static void wrongMounts(Check check) {
        PoloSeason x = players(1);
        x.pony(0);
        check.index("mount(1, 0, 0): the player first", () -> x.mount(1, 0, 0));
        check.index("mount(-1, 4, 0)", () -> x.mount(-1, 4, 0));
        int[][] wrong = {{0, 0}, {7, 0}, {-1, -1}, {1, 1}, {6, 6}, {4, -1}, {Integer.MIN_VALUE, 0}, {4, Integer.MAX_VALUE}};
        for (int[] w : wrong) {
            check.argument("mount(0, " + w[0] + ", " + w[1] + ")", () -> x.mount(0, w[0], w[1]));
        }
    }

    private static void mounts(Check check) {
        PoloSeason x = players(4);
        mountsAre(check, x, 0, -1, -1, -1);
        x.pony(0);
        mountsAre(check, x, 0, 0);
        mountsAre(check, x, 0, 0, -1);
        mountsAre(check, x, 0, 0, -1, 0);
        mountsAre(check, x, 0, 0, -1, 0, -1, -1, -1);
        x.pony(1);
        x.pony(0);
        mountsAre(check, x, 0, 0, 2);
        mountsAre(check, x, 0, 0, 2, 0, 2, -1, -1);
        x.pony(0);
        mountsAre(check, x, 0, 0, 2, 0, 3);
        mountsAre(check, x, 0, 0, 2, 0, 2, 3);
        mountsAre(check, x, 0, 0, 2, 0, 3, 2, 3);
        x.pony(0);
        mountsAre(check, x, 0, 0, 2, 0, 2, 3, 4);
        mountsAre(check, x, 0, 0, 2, 3, 4);
        mountsAre(check, x, 1, 1, -1, 1, -1, -1, -1);
        check.same("mount changes nothing", x.told(0, 2) + x.told(0, 1) + x.afoot(), 0);
    }

    private static void evenlyLed(Check check) {
        PoloSeason x = drawnTeams(4);
        x.pony(0);
        x.pony(0);
        x.play(1, 0);
        x.rest();
        x.pony(0);
        x.pony(0);
        // 14, 14, 0, 0 led: the fresh ones have 4 chukkas and end at 14 as the others are
        mountsAre(check, x, 0, 2, 3, 2, 3);
        // 5 chukkas: one of the elder ones must have 21, and its number is the first
        mountsAre(check, x, 0, 0, 2, 3, 2, 3);
        x.lame(3, 9);
        mountsAre(check, x, 0, 0, 2, 1, 2);
        x.lame(2, 9);
        mountsAre(check, x, 0, 0, 1, 0, 1);
    }

    /** All of the player's ponies are compared, not the ridden ones alone. */
    private static void unriddenPoniesCount(Check check) {
        PoloSeason x = drawnTeams(4);
        for (int pony = 0; pony <= 2; pony++) {
            x.pony(0);
        }
        x.play(1, 0);
        x.rest();
        for (int pony = 0; pony <= 2; pony++) {
            x.lame(pony, 9);
        }
        for (int pony = 3; pony <= 6; pony++) {
            x.pony(0);
        }
        x.play(1, 0);
        for (int pony = 4; pony <= 6; pony++) {
            x.lame(pony, 9);
        }
        x.lame(0, 0);
        x.lame(1, 0);
        int[] led = {14, 7, 7, 7, 7, 7, 7};
        for (int pony = 0; pony < led.length; pony++) {
            check.same("told(" + pony + ", 1)", x.told(pony, 1), led[pony]);
        }
        // 3 has one ride left; 0 1 3 and 1 3 1 both leave 0, 1 and 3 with 21, 14, 14 in some order
        mountsAre(check, x, 0, 0, 1, 3);
    }

    private static void matches(Check check) {
        PoloSeason x = drawnTeams(6);
        int[] owners = {0, 0, 0, 4, 4, 7};
        for (int owner : owners) {
            x.pony(owner);
        }
        check.same("play(2, 2)", x.play(2, 2), -1);
        check.same("told(0, 1), as many each", x.told(0, 1), 0);
        x.play(2, 1);
        for (int pony = 0; pony < 6; pony++) {
            check.same("told(" + pony + ", 1)", x.told(pony, 1), 14);
            check.same("told(" + pony + ", 2)", x.told(pony, 2), 2);
        }
        check.same("afoot()", x.afoot(), 48 - 12);
        x.pony(5);
        x.play(1, 2);
        check.same("told(6, 1)", x.told(6, 1), 14);
        check.same("told(0, 1), no more today", x.told(0, 1), 14);
        check.same("afoot(), both matches", x.afoot(), 36 + 48 - 2);
        check.same("rest()", x.rest(), 1);
        check.same("told(0, 2), a new day", x.told(0, 2), 0);
        check.same("told(0, 1), a new day", x.told(0, 1), 14);
        x.play(1, 2);
        check.same("told(0, 1)", x.told(0, 1), 28);
        check.same("told(0, 2)", x.told(0, 2), 2);
    }

    private static void days(Check check) {
        PoloSeason x = players(1);
        for (int day = 1; day <= 100000; day++) {
            if (x.rest() != day) {
                check.same("rest()", day - 1, day);
            }
        }
        check.state("rest(), day 100,000", x::rest);
        check.same("count(6)", x.count(6), 100000);
    }

    private static void counts(Check check) {
        PoloSeason x = drawnTeams(5);
        x.pony(3);
        x.pony(3);
        x.pony(3);
        x.play(0, 1);
        x.noise(4);
        x.noise(4);
        x.rest();
        x.ball(0, 0, 1, 1);
        x.rider(0, 0, 0, 1, 1);
        int[] due = {8, 2, 3, 2, 1, 2, 1, 2, 1};
        for (int what = 0; what < due.length; what++) {
            check.same("count(" + what + ")", x.count(what), due[what]);
        }
        for (int what : new int[] {-1, 9, Integer.MIN_VALUE, Integer.MAX_VALUE}) {
            check.same("count(" + what + ")", x.count(what), -1);
        }
    }
}

import java.util.ArrayList;
import java.util.List;
import java.util.Random;

/** MOUNTS (promises 12 and 18) against a search through all ways, in states that runs of calls come to. */
public final class MountsTest {
    private final Check check;
    private final Random random;
    private final PoloSeason x = new PoloSeason();
    private final int[] lameTill = new int[60];

    private MountsTest(Check check, int seed) {
        this.check = check;
        random = new Random(seed);
    }

    public static void main(String[] args) {
        Check check = new Check();
        for (int seed = 0; seed < 400; seed++) {
            new MountsTest(check, seed).run();
        }
        check.finish("MountsTest");
    }

    private void run() {
        for (int i = 0; i < 8; i++) {
            x.player(0);
        }
        x.team(0, 1, 2, 3);
        x.team(4, 5, 6, 7);
        int ponies = 1 + random.nextInt(8);
        for (int i = 0; i < ponies; i++) {
            x.pony(0);
        }
        for (int step = 0; step < 30; step++) {
            change();
            if (step % 3 == 0) {
                compare(0);
            }
        }
    }

    private void change() {
        int what = random.nextInt(10);
        if (what < 5) {
            playOne();
        } else if (what < 7) {
            int pony = random.nextInt(x.count(2));
            lameTill[pony] = random.nextInt(x.count(6) + 4);
            x.lame(pony, lameTill[pony]);
        } else if (what < 9) {
            x.rest();
        } else if (x.count(2) < 8 && random.nextInt(4) == 0) {
            x.pony(0);
        }
    }

    private void playOne() {
        int chukkas = 4 + random.nextInt(3);
        x.cup(0, chukkas);
        x.enter(0);
        x.enter(1);
        x.noise(0);
        x.draw();
        int afoot = x.afoot();
        int ridden = 0;
        int[] before = led();
        int[] due = due(0, chukkas);
        x.play(1, 0);
        int[] after = led();
        for (int pony : due) {
            if (pony >= 0) {
                before[pony] += 7;
                ridden++;
            }
        }
        for (int pony = 0; pony < before.length; pony++) {
            check.same("told(" + pony + ", 1) behind a match", after[pony], before[pony]);
        }
        check.same("afoot() behind a match", x.afoot(), afoot + 8 * chukkas - ridden);
    }

    private int[] led() {
        int[] led = new int[x.count(2)];
        for (int pony = 0; pony < led.length; pony++) {
            led[pony] = x.told(pony, 1);
        }
        return led;
    }

    private int[] due(int player, int chukkas) {
        List<Integer> own = new ArrayList<>();
        for (int pony = 0; pony < x.count(2); pony++) {
            if (x.told(pony, 0) == player) {
                own.add(pony);
            }
        }
        int[] led = new int[own.size()];
        int[] left = new int[own.size()];
        for (int i = 0; i < led.length; i++) {
            int pony = own.get(i);
            led[i] = x.told(pony, 1);
            left[i] = lameTill[pony] > x.count(6) ? 0 : 2 - x.told(pony, 2);
        }
        int[] way = AllWays.best(led, left, chukkas);
        for (int chukka = 0; chukka < chukkas; chukka++) {
            way[chukka] = way[chukka] < 0 ? -1 : own.get(way[chukka]);
        }
        return way;
    }

    private void compare(int player) {
        for (int chukkas = 1; chukkas <= 6; chukkas++) {
            int[] due = due(player, chukkas);
            for (int chukka = 0; chukka < chukkas; chukka++) {
                String call = "mount(" + player + ", " + chukkas + ", " + chukka + ")";
                check.same(call, x.mount(player, chukkas, chukka), due[chukka]);
            }
        }
    }
}

import java.util.ArrayList;
import java.util.List;

/** The document once more, as plainly as lists and searches tell it, for players, teams, the cup and ponies. */
final class Model {
    private static final class Pony {
        int owner;
        int led;
        int today;
        int lameTill;
    }

    private final List<Integer> handicaps = new ArrayList<>();
    private final List<int[]> teams = new ArrayList<>();
    private final List<Integer> noise = new ArrayList<>();
    private final List<Pony> ponies = new ArrayList<>();
    private int day = 0;
    private int afoot = 0;

    private boolean cup = false;
    private boolean drawn = false;
    private int limit;
    private int chukkas;
    private int played;
    private int rounds;
    private final List<Integer> entered = new ArrayList<>();
    private List<Integer> whole = new ArrayList<>();
    private List<Integer> hurt = new ArrayList<>();
    private final List<int[]> toPlay = new ArrayList<>();
    private final List<Integer> lost = new ArrayList<>();

    private static void argument(boolean holds) {
        if (!holds) {
            throw new IllegalArgumentException();
        }
    }

    private static void state(boolean holds) {
        if (!holds) {
            throw new IllegalStateException();
        }
    }

    private static void index(int number, List<?> among) {
        if (number < 0 || number >= among.size()) {
            throw new IndexOutOfBoundsException();
        }
    }

    int player(int handicap) {
        argument(-2 <= handicap && handicap <= 10);
        state(handicaps.size() < 32);
        handicaps.add(handicap);
        return handicaps.size() - 1;
    }

    int rate(int player, int handicap) {
        index(player, handicaps);
        argument(-2 <= handicap && handicap <= 10);
        return handicaps.set(player, handicap);
    }

    int team(int a, int b, int c, int d) {
        int[] four = {a, b, c, d};
        for (int p : four) {
            index(p, handicaps);
        }
        state(teams.size() < 8);
        List<Integer> used = new ArrayList<>();
        for (int[] t : teams) {
            for (int p : t) {
                used.add(p);
            }
        }
        for (int p : four) {
            if (used.contains(p)) {
                return -1;
            }
            used.add(p);
        }
        teams.add(four);
        return teams.size() - 1;
    }

    int strength(int team) {
        index(team, teams);
        int sum = 0;
        for (int p : teams.get(team)) {
            sum += handicaps.get(p);
        }
        return sum;
    }

    int cup(int limit, int chukkas) {
        argument(0 <= limit && limit <= 40 && 4 <= chukkas && chukkas <= 6);
        this.limit = limit;
        this.chukkas = chukkas;
        cup = true;
        drawn = false;
        played = 0;
        rounds = 0;
        entered.clear();
        whole.clear();
        hurt.clear();
        toPlay.clear();
        lost.clear();
        return 0;
    }

    int enter(int team) {
        index(team, teams);
        state(cup && !drawn);
        if (entered.contains(team)) {
            return -1;
        }
        if (strength(team) > limit) {
            return -2;
        }
        entered.add(team);
        return entered.size();
    }

    int noise(int v) {
        if (noise.size() == 20) {
            return -1;
        }
        noise.add(v);
        return noise.size();
    }

    int draw() {
        state(cup && !drawn);
        if (entered.size() < 2) {
            return -1;
        }
        if (noise.size() < entered.size() - 1) {
            return -2;
        }
        whole = new ArrayList<>(entered);
        for (int i = whole.size() - 1; i >= 1; i--) {
            int j = Integer.remainderUnsigned(noise.remove(0), i + 1);
            int team = whole.get(i);
            whole.set(i, whole.get(j));
            whole.set(j, team);
        }
        noise.clear();
        drawn = true;
        beginRound();
        return entered.size();
    }

    private void beginRound() {
        rounds++;
        if (whole.size() == 1 && hurt.size() == 1) {
            toPlay.add(new int[] {whole.get(0), hurt.get(0)});
            return;
        }
        for (List<Integer> row : List.of(whole, hurt)) {
            for (int i = 0; i + 1 < row.size(); i += 2) {
                toPlay.add(new int[] {row.get(i), row.get(i + 1)});
            }
        }
    }

    int next(int which) {
        argument(which == 0 || which == 1);
        return toPlay.isEmpty() ? -1 : toPlay.get(0)[which];
    }

    int given(int which) {
        int team = next(which);
        if (team < 0) {
            return -1;
        }
        int less = strength(next(1 - which)) - strength(team);
        int halves = 0;
        for (int sixths = less * chukkas; sixths > 0; sixths -= 6) {
            halves += sixths >= 6 ? 2 : 1;
        }
        return halves;
    }

    int play(int goals, int others) {
        argument(0 <= goals && goals <= 50 && 0 <= others && others <= 50);
        state(!toPlay.isEmpty());
        int ahead = 2 * goals + given(0) - 2 * others - given(1);
        if (ahead == 0) {
            return -1;
        }
        int[] match = toPlay.remove(0);
        for (int team : match) {
            for (int p : teams.get(team)) {
                ride(p);
            }
        }
        played++;
        lost.add(ahead > 0 ? match[1] : match[0]);
        if (toPlay.isEmpty()) {
            endRound();
        }
        return ahead > 0 ? match[0] : match[1];
    }

    private void endRound() {
        List<Integer> nowHurt = new ArrayList<>(hurt);
        nowHurt.removeAll(lost);
        for (int team : lost) {
            if (whole.contains(team)) {
                nowHurt.add(team);
            }
        }
        whole.removeAll(lost);
        hurt = nowHurt;
        lost.clear();
        if (whole.size() + hurt.size() > 1) {
            beginRound();
        }
    }

    private void ride(int player) {
        for (int pony : mounts(player, chukkas)) {
            if (pony < 0) {
                afoot++;
            } else {
                ponies.get(pony).today++;
                ponies.get(pony).led += 7;
            }
        }
    }

    int where(int team) {
        index(team, teams);
        if (!drawn || !entered.contains(team)) {
            return 0;
        }
        if (!whole.contains(team) && !hurt.contains(team)) {
            return 3;
        }
        if (whole.size() + hurt.size() == 1) {
            return 4;
        }
        return whole.contains(team) ? 1 : 2;
    }

    int row(int which, int k) {
        argument(which == 0 || which == 1);
        List<Integer> row = which == 0 ? whole : hurt;
        return k < 0 || k >= row.size() ? -1 : row.get(k);
    }

    int pony(int player) {
        index(player, handicaps);
        state(ponies.size() < 60 && own(player).size() < 8);
        Pony pony = new Pony();
        pony.owner = player;
        ponies.add(pony);
        return ponies.size() - 1;
    }

    private List<Integer> own(int player) {
        List<Integer> own = new ArrayList<>();
        for (int i = 0; i < ponies.size(); i++) {
            if (ponies.get(i).owner == player) {
                own.add(i);
            }
        }
        return own;
    }

    int lame(int pony, int till) {
        index(pony, ponies);
        argument(0 <= till && till <= 100000);
        ponies.get(pony).lameTill = till;
        return till > day ? 1 : 0;
    }

    int told(int pony, int what) {
        index(pony, ponies);
        argument(0 <= what && what <= 2);
        Pony of = ponies.get(pony);
        return what == 0 ? of.owner : what == 1 ? of.led : of.today;
    }

    int mount(int player, int chukkas, int chukka) {
        index(player, handicaps);
        argument(1 <= chukkas && chukkas <= 6 && 0 <= chukka && chukka < chukkas);
        return mounts(player, chukkas)[chukka];
    }

    private int[] mounts(int player, int chukkas) {
        List<Integer> own = own(player);
        int[] led = new int[own.size()];
        int[] left = new int[own.size()];
        for (int i = 0; i < led.length; i++) {
            Pony pony = ponies.get(own.get(i));
            led[i] = pony.led;
            left[i] = pony.lameTill > day ? 0 : 2 - pony.today;
        }
        int[] way = AllWays.best(led, left, chukkas);
        for (int chukka = 0; chukka < chukkas; chukka++) {
            way[chukka] = way[chukka] < 0 ? -1 : own.get(way[chukka]);
        }
        return way;
    }

    int afoot() {
        return afoot;
    }

    int rest() {
        for (Pony pony : ponies) {
            pony.today = 0;
        }
        return ++day;
    }

    int count(int what) {
        int[] counts = {handicaps.size(), teams.size(), ponies.size(), entered.size(), played, rounds, day, noise.size(), 0};
        return what < 0 || what >= counts.length ? -1 : counts[what];
    }
}

import java.util.Random;
import java.util.function.IntSupplier;

/** Long runs of chance calls, wrong ones among them, each answer against the model's. */
public final class ModelTest {
    private static final int CALLS = 512;
    private static final int[] EDGES = {Integer.MIN_VALUE, -3, -2, -1, 7, 8, 11, 32, 41, 51, 60, 100001, Integer.MAX_VALUE};

    private final Check check;
    private final Random random;
    private final PoloSeason x = new PoloSeason();
    private final Model model = new Model();
    private final int setUp;
    private final int favourites;

    private ModelTest(Check check, int seed) {
        this.check = check;
        random = new Random(seed);
        setUp = random.nextInt(150);
        favourites = random.nextInt(8);
    }

    public static void main(String[] args) {
        Check check = new Check();
        for (int seed = 0; seed < 300; seed++) {
            ModelTest run = new ModelTest(check, seed);
            for (int call = 0; call < CALLS; call++) {
                run.one(call);
            }
        }
        check.finish("ModelTest");
    }

    /** A number from least to greatest, now and then one far off. */
    private int some(int least, int greatest) {
        if (random.nextInt(40) == 0) {
            return EDGES[random.nextInt(EDGES.length)];
        }
        return least + random.nextInt(greatest - least + 1);
    }

    private int known(int what) {
        return some(0, Math.max(0, model.count(what) - 1));
    }

    private void one(int call) {
        if (call < 12 + setUp) {
            build();
        } else if (random.nextInt(3) == 0) {
            ask();
        } else if (random.nextInt(2) == 0) {
            goOnWithCup();
        } else {
            change();
        }
    }

    private void build() {
        int what = random.nextInt(8);
        if (what < 4) {
            int handicap = some(-2, 10);
            both("player(" + handicap + ")", () -> x.player(handicap), () -> model.player(handicap));
        } else if (what < 6) {
            addTeam();
        } else {
            int player = random.nextInt(2) == 0 ? known(0) : some(0, favourites);
            both("pony(" + player + ")", () -> x.pony(player), () -> model.pony(player));
        }
    }

    /** Mostly the next four players. */
    private void addTeam() {
        int a = random.nextInt(3) == 0 ? known(0) : 4 * model.count(1);
        int b = random.nextInt(20) == 0 ? known(0) : a + 1;
        int c = random.nextInt(20) == 0 ? known(0) : b + 1;
        int d = random.nextInt(20) == 0 ? known(0) : c + 1;
        both("team(" + a + ", " + b + ", " + c + ", " + d + ")", () -> x.team(a, b, c, d), () -> model.team(a, b, c, d));
    }

    /** The call that brings the cup on, as far as chance lets it. */
    private void goOnWithCup() {
        boolean drawn = model.count(5) > 0;
        if (model.next(0) >= 0) {
            int goals = random.nextInt(20) == 0 ? some(0, 50) : closeTo(1);
            int others = random.nextInt(20) == 0 ? some(0, 50) : closeTo(0);
            both("play(" + goals + ", " + others + ")", () -> x.play(goals, others), () -> model.play(goals, others));
        } else if (drawn || model.count(3) == 0 && random.nextInt(4) == 0) {
            newCup();
        } else if (random.nextInt(12) == 0) {
            both("draw()", x::draw, model::draw);
        } else if (random.nextInt(3) > 0) {
            int team = known(1);
            both("enter(" + team + ")", () -> x.enter(team), () -> model.enter(team));
        } else {
            int v = random.nextInt();
            both("noise(" + v + ")", () -> x.noise(v), () -> model.noise(v));
        }
    }

    /** So many goals that what is given to the other side nearly makes up for them. */
    private int closeTo(int other) {
        return Math.min(50, model.given(other) / 2 + random.nextInt(3));
    }

    private void newCup() {
        int limit = random.nextInt(2) == 0 ? 40 : some(0, 40);
        int chukkas = some(4, 6);
        both("cup(" + limit + ", " + chukkas + ")", () -> cupOf(limit, chukkas), () -> model.cup(limit, chukkas));
    }

    private void change() {
        int what = random.nextInt(60);
        if (what < 12) {
            int pony = known(2);
            int till = some(0, model.count(6) + 3);
            both("lame(" + pony + ", " + till + ")", () -> x.lame(pony, till) ? 1 : 0, () -> model.lame(pony, till));
        } else if (what < 30) {
            both("rest()", x::rest, model::rest);
        } else if (what < 36) {
            int player = known(0);
            int handicap = some(-2, 10);
            both("rate(" + player + ", " + handicap + ")", () -> x.rate(player, handicap), () -> model.rate(player, handicap));
        } else if (what < 37) {
            newCup();
        } else if (what < 40) {
            both("draw()", x::draw, model::draw);
        } else if (what < 43) {
            int team = known(1);
            both("enter(" + team + ")", () -> x.enter(team), () -> model.enter(team));
        } else if (what < 46) {
            int goals = some(0, 50);
            both("play(" + goals + ", 25)", () -> x.play(goals, 25), () -> model.play(goals, 25));
        } else {
            build();
        }
    }

    private int cupOf(int limit, int chukkas) {
        x.cup(limit, chukkas);
        return 0;
    }

    private void ask() {
        int which = some(0, 1);
        int k = some(0, 7);
        int team = known(1);
        int player = known(0);
        int chukkas = some(1, 6);
        int chukka = some(0, 5);
        int pony = known(2);
        int what = some(0, 2);
        both("next(" + which + ")", () -> x.next(which), () -> model.next(which));
        both("given(" + which + ")", () -> x.given(which), () -> model.given(which));
        both("row(" + which + ", " + k + ")", () -> x.row(which, k), () -> model.row(which, k));
        both("where(" + team + ")", () -> x.where(team), () -> model.where(team));
        both("strength(" + team + ")", () -> x.strength(team), () -> model.strength(team));
        both("mount(" + player + ", " + chukkas + ", " + chukka + ")",
                () -> x.mount(player, chukkas, chukka), () -> model.mount(player, chukkas, chukka));
        both("told(" + pony + ", " + what + ")", () -> x.told(pony, what), () -> model.told(pony, what));
        both("afoot()", x::afoot, model::afoot);
        both("count(" + k + ")", () -> x.count(k), () -> model.count(k));
    }

    private void both(String call, IntSupplier asked, IntSupplier due) {
        String got = answer(asked);
        String want = answer(due);
        check.yes(call + " answered " + got + ", due is " + want + ": that", got.equals(want));
    }

    private static String answer(IntSupplier work) {
        try {
            return Integer.toString(work.getAsInt());
        } catch (RuntimeException e) {
            return e.getClass().getName();
        }
    }
}

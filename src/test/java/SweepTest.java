import java.util.ArrayList;
import java.util.List;

/** Every call with every mix of edge arguments, in seasons from new to full, against the model: which answer, or which exception. */
public final class SweepTest {
    private static final int[] EDGES = {Integer.MIN_VALUE, -3, -2, -1, 0, 1, 2, 3, 4, 5, 6, 7, 8, 9, 10, 11, 31, 32, 33,
        40, 41, 50, 51, 59, 60, 61, 100000, 100001, Integer.MAX_VALUE};
    private static final int[] FEW = {Integer.MIN_VALUE, -1, 0, 1, 3, 4, 8, 31, 32, Integer.MAX_VALUE};
    private static final int[] ARGUMENTS = {1, 2, 4, 1, 2, 1, 1, 0, 1, 1, 2, 1, 2, 1, 2, 2, 3, 0, 0, 1};
    private static final String[] NAMES = {"player", "rate", "team", "strength", "cup", "enter", "noise", "draw", "next",
        "given", "play", "where", "row", "pony", "lame", "told", "mount", "afoot", "rest", "count"};
    private static final int PLAYER = 0;
    private static final int TEAM = 2;
    private static final int CUP = 4;
    private static final int ENTER = 5;
    private static final int NOISE = 6;
    private static final int DRAW = 7;
    private static final int PLAY = 10;
    private static final int PONY = 13;
    /** Building takes some 140 calls at most; so many more keep an object under its 512. */
    private static final int CALLS = 350;

    private final Check check = new Check();

    public static void main(String[] args) {
        SweepTest test = new SweepTest();
        List<List<int[]>> seasons = seasons();
        for (int season = 0; season < seasons.size(); season++) {
            for (int method = 0; method < NAMES.length; method++) {
                test.sweep("season " + season, seasons.get(season), method);
            }
        }
        test.check.finish("SweepTest");
    }

    private void sweep(String name, List<int[]> building, int method) {
        PoloSeason x = null;
        Model model = null;
        int calls = 0;
        for (int[] call : mixes(method)) {
            if (calls % CALLS == 0) {
                x = new PoloSeason();
                model = new Model();
                for (int[] built : building) {
                    same(name, x, model, built);
                }
            }
            same(name, x, model, call);
            calls++;
        }
    }

    private void same(String name, PoloSeason x, Model model, int[] call) {
        String got;
        String due;
        try {
            got = Integer.toString(ask(x, call));
        } catch (RuntimeException e) {
            got = e.getClass().getName();
        }
        try {
            due = Integer.toString(ask(model, call));
        } catch (RuntimeException e) {
            due = e.getClass().getName();
        }
        String told = NAMES[call[0]] + java.util.Arrays.toString(java.util.Arrays.copyOfRange(call, 1, 1 + ARGUMENTS[call[0]]));
        check.yes(name + ": " + told + " answered " + got + ", due is " + due + ": that", got.equals(due));
    }

    private static List<int[]> mixes(int method) {
        List<int[]> calls = new ArrayList<>();
        int[] values = ARGUMENTS[method] > 2 ? FEW : EDGES;
        int many = 1;
        for (int i = 0; i < ARGUMENTS[method]; i++) {
            many *= values.length;
        }
        for (int mix = 0; mix < many; mix++) {
            int[] call = {method, 0, 0, 0, 0};
            for (int i = 0, rest = mix; i < ARGUMENTS[method]; i++, rest /= values.length) {
                call[i + 1] = values[rest % values.length];
            }
            calls.add(call);
        }
        return calls;
    }

    private static void add(List<int[]> calls, int... call) {
        calls.add(java.util.Arrays.copyOf(call, 5));
    }

    /** New; few players; full; the same with a cup entered, drawn, within a round, won; and with full noise. */
    private static List<List<int[]>> seasons() {
        List<List<int[]>> seasons = new ArrayList<>();
        List<int[]> calls = new ArrayList<>();
        seasons.add(new ArrayList<>(calls));
        for (int i = 0; i < 32; i++) {
            add(calls, PLAYER, i % 13 - 2);
            if (i % 4 == 3) {
                add(calls, TEAM, i, i - 1, i - 2, i - 3);
            }
            if (i == 8) {
                add(calls, PONY, 0);
                seasons.add(new ArrayList<>(calls));
            }
        }
        for (int i = 1; i < 60; i++) {
            add(calls, PONY, i / 8);
        }
        seasons.add(new ArrayList<>(calls));
        add(calls, CUP, 10, 5);
        seasons.add(new ArrayList<>(calls));
        add(calls, CUP, 18, 6);
        for (int team = 0; team < 8; team++) {
            add(calls, ENTER, team);
        }
        seasons.add(new ArrayList<>(calls));
        for (int i = 0; i < 20; i++) {
            add(calls, NOISE, -7 * i);
        }
        seasons.add(new ArrayList<>(calls));
        add(calls, DRAW);
        seasons.add(new ArrayList<>(calls));
        for (int match = 0; match < 15; match++) {
            add(calls, PLAY, match % 3 * 25, 25);
            if (match == 0 || match == 6 || match == 14) {
                seasons.add(new ArrayList<>(calls));
            }
        }
        return seasons;
    }

    private static int ask(PoloSeason x, int[] c) {
        switch (c[0]) {
            case 0: return x.player(c[1]);
            case 1: return x.rate(c[1], c[2]);
            case 2: return x.team(c[1], c[2], c[3], c[4]);
            case 3: return x.strength(c[1]);
            case 4: return Seasons.cup(x, c[1], c[2]);
            case 5: return x.enter(c[1]);
            case 6: return x.noise(c[1]);
            case 7: return x.draw();
            case 8: return x.next(c[1]);
            case 9: return x.given(c[1]);
            case 10: return x.play(c[1], c[2]);
            case 11: return x.where(c[1]);
            case 12: return x.row(c[1], c[2]);
            case 13: return x.pony(c[1]);
            case 14: return Seasons.lame(x, c[1], c[2]);
            case 15: return x.told(c[1], c[2]);
            case 16: return x.mount(c[1], c[2], c[3]);
            case 17: return x.afoot();
            case 18: return x.rest();
            default: return x.count(c[1]);
        }
    }

    private static int ask(Model x, int[] c) {
        switch (c[0]) {
            case 0: return x.player(c[1]);
            case 1: return x.rate(c[1], c[2]);
            case 2: return x.team(c[1], c[2], c[3], c[4]);
            case 3: return x.strength(c[1]);
            case 4: return x.cup(c[1], c[2]);
            case 5: return x.enter(c[1]);
            case 6: return x.noise(c[1]);
            case 7: return x.draw();
            case 8: return x.next(c[1]);
            case 9: return x.given(c[1]);
            case 10: return x.play(c[1], c[2]);
            case 11: return x.where(c[1]);
            case 12: return x.row(c[1], c[2]);
            case 13: return x.pony(c[1]);
            case 14: return x.lame(c[1], c[2]);
            case 15: return x.told(c[1], c[2]);
            case 16: return x.mount(c[1], c[2], c[3]);
            case 17: return x.afoot();
            case 18: return x.rest();
            default: return x.count(c[1]);
        }
    }
}

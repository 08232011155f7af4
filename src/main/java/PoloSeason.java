/** A polo season: players and teams, a cup in which a team may lose once, ponies and mounts, the law of the line. */
public final class PoloSeason {
    public static final int NONE = -1;

    private static final int MAX_PLAYERS = 32;
    private static final int LEAST_HANDICAP = -2;
    private static final int GREATEST_HANDICAP = 10;
    private static final int MAX_TEAMS = 8;
    private static final int TEAM_SIZE = 4;
    private static final int MAX_NOISE = 20;
    private static final int GREATEST_LIMIT = 40;
    private static final int LEAST_CUP_CHUKKAS = 4;
    private static final int MAX_CHUKKAS = 6;
    private static final int MAX_GOALS = 50;
    private static final int MAX_PONIES = 60;
    private static final int MAX_PONIES_OF_ONE = 8;
    private static final int RIDES_A_DAY = 2;
    private static final int MINUTES_A_CHUKKA = 7;
    private static final int LAST_DAY = 100000;
    private static final int MAX_RIDERS = 8;
    private static final int REACH = 1000;

    private static final int WHOLE = 0;
    private static final int HURT = 1;

    private final Roster roster;
    private final Noise numbers;
    private final Tournament tournament;
    private final Stable stable;
    private final Planner planner;
    private final Line line;
    private int chukkasAfoot;

    public PoloSeason() {
        roster = new Roster();
        numbers = new Noise();
        tournament = new Tournament();
        stable = new Stable();
        planner = new Planner();
        line = new Line();
        chukkasAfoot = 0;
    }

    public int player(int handicap) throws IllegalArgumentException, IllegalStateException {
        requireHandicap(handicap);
        if (roster.playersAreFull()) {
            throw new IllegalStateException("there are 32 players");
        }
        return roster.addPlayer(handicap);
    }

    public int rate(int player, int handicap) throws IndexOutOfBoundsException, IllegalArgumentException {
        requirePlayer(player);
        requireHandicap(handicap);
        return roster.changeHandicap(player, handicap);
    }

    public int team(int a, int b, int c, int d) throws IndexOutOfBoundsException, IllegalStateException {
        requirePlayer(a);
        requirePlayer(b);
        requirePlayer(c);
        requirePlayer(d);
        if (roster.teamsAreFull()) {
            throw new IllegalStateException("there are 8 teams");
        }
        boolean toldTwice = a == b || a == c || a == d || b == c || b == d || c == d;
        if (toldTwice || roster.inTeam(a) || roster.inTeam(b) || roster.inTeam(c) || roster.inTeam(d)) {
            return NONE;
        }
        return roster.addTeam(a, b, c, d);
    }

    public int strength(int team) throws IndexOutOfBoundsException {
        requireTeam(team);
        return roster.sumOf(team);
    }

    public void cup(int limit, int chukkas) throws IllegalArgumentException {
        if (!within(limit, 0, GREATEST_LIMIT) || !within(chukkas, LEAST_CUP_CHUKKAS, MAX_CHUKKAS)) {
            throw new IllegalArgumentException("no such limit or chukkas");
        }
        tournament.beginAnew(limit, chukkas);
    }

    public int enter(int team) throws IndexOutOfBoundsException, IllegalStateException {
        requireTeam(team);
        requireUndrawnCup();
        if (tournament.holds(team)) {
            return -1;
        }
        if (roster.sumOf(team) > tournament.limit()) {
            return -2;
        }
        return tournament.admit(team);
    }

    public int noise(int v) {
        return numbers.add(v);
    }

    public int draw() throws IllegalStateException {
        requireUndrawnCup();
        int teams = tournament.teams();
        if (teams < 2) {
            return -1;
        }
        if (numbers.size() < teams - 1) {
            return -2;
        }
        tournament.shuffle(numbers);
        numbers.empty();
        return teams;
    }

    public int next(int which) throws IllegalArgumentException {
        requireZeroOrOne(which);
        return tournament.sideOfNext(which);
    }

    public int given(int which) throws IllegalArgumentException {
        requireZeroOrOne(which);
        int team = tournament.sideOfNext(which);
        int other = tournament.sideOfNext(1 - which);
        if (team == NONE || other == NONE) {
            return NONE;
        }
        return halvesFor(team, other);
    }

    public int play(int goals, int others) throws IllegalArgumentException, IllegalStateException {
        if (!within(goals, 0, MAX_GOALS) || !within(others, 0, MAX_GOALS)) {
            throw new IllegalArgumentException("goals are 0 to 50");
        }
        int first = tournament.sideOfNext(0);
        int second = tournament.sideOfNext(1);
        if (first == NONE || second == NONE) {
            throw new IllegalStateException("no match is next");
        }
        int firstScore = 2 * goals + halvesFor(first, second);
        int secondScore = 2 * others + halvesFor(second, first);
        if (firstScore == secondScore) {
            return NONE;
        }
        rideTeam(first);
        rideTeam(second);
        boolean firstWon = firstScore > secondScore;
        tournament.endMatch(firstWon ? second : first);
        return firstWon ? first : second;
    }

    public int where(int team) throws IndexOutOfBoundsException {
        requireTeam(team);
        return tournament.placeOf(team);
    }

    public int row(int which, int k) throws IllegalArgumentException {
        requireZeroOrOne(which);
        return tournament.inRow(which, k);
    }

    public int pony(int player) throws IndexOutOfBoundsException, IllegalStateException {
        requirePlayer(player);
        if (stable.isFull() || stable.poniesOf(player) >= MAX_PONIES_OF_ONE) {
            throw new IllegalStateException("there are 60 ponies, or 8 of this player");
        }
        return stable.addPony(player);
    }

    public boolean lame(int pony, int till) throws IndexOutOfBoundsException, IllegalArgumentException {
        requirePony(pony);
        if (!within(till, 0, LAST_DAY)) {
            throw new IllegalArgumentException("a day is 0 to 100,000");
        }
        return stable.layUp(pony, till);
    }

    public int told(int pony, int what) throws IndexOutOfBoundsException, IllegalArgumentException {
        requirePony(pony);
        switch (what) {
            case 0:
                return stable.ownerOf(pony);
            case 1:
                return stable.ledOf(pony);
            case 2:
                return stable.ridesToday(pony);
            default:
                throw new IllegalArgumentException("nothing else is told of a pony");
        }
    }

    public int mount(int player, int chukkas, int chukka) throws IndexOutOfBoundsException, IllegalArgumentException {
        requirePlayer(player);
        if (!within(chukkas, 1, MAX_CHUKKAS) || !within(chukka, 0, chukkas - 1)) {
            throw new IllegalArgumentException("no such chukka");
        }
        planner.plan(stable, player, chukkas);
        return planner.ponyIn(chukka);
    }

    public int afoot() {
        return chukkasAfoot;
    }

    public int rest() throws IllegalStateException {
        if (stable.today() >= LAST_DAY) {
            throw new IllegalStateException("it is day 100,000");
        }
        return stable.nextDay();
    }

    public void ball(int x, int y, int dx, int dy) throws IllegalArgumentException {
        requireWay(x, y, dx, dy);
        line.placeBall(x, y, dx, dy);
    }

    public int rider(int side, int x, int y, int dx, int dy) throws IllegalArgumentException, IllegalStateException {
        requireZeroOrOne(side);
        requireWay(x, y, dx, dy);
        if (!line.hasBall() || line.isFull()) {
            throw new IllegalStateException("there is no ball, or there are 8 riders");
        }
        return line.addRider(side, x, y, dx, dy);
    }

    public int right() {
        return line.firstByRight();
    }

    public int foul(int k) {
        return line.crosser(k);
    }

    public int count(int what) {
        switch (what) {
            case 0:
                return roster.players();
            case 1:
                return roster.teams();
            case 2:
                return stable.ponies();
            case 3:
                return tournament.teams();
            case 4:
                return tournament.matchesPlayed();
            case 5:
                return tournament.roundsBegun();
            case 6:
                return stable.today();
            case 7:
                return numbers.size();
            case 8:
                return line.riders();
            default:
                return NONE;
        }
    }

    private static boolean within(int value, int least, int greatest) {
        return value >= least && value <= greatest;
    }

    private static void requireHandicap(int handicap) {
        if (!within(handicap, LEAST_HANDICAP, GREATEST_HANDICAP)) {
            throw new IllegalArgumentException("a handicap is -2 to 10");
        }
    }

    private static void requireZeroOrOne(int value) {
        if (value != 0 && value != 1) {
            throw new IllegalArgumentException("it is 0 or 1");
        }
    }

    private static void requireWay(int x, int y, int dx, int dy) {
        boolean near = within(x, -REACH, REACH) && within(y, -REACH, REACH);
        boolean slow = within(dx, -REACH, REACH) && within(dy, -REACH, REACH);
        if (!near || !slow || (dx == 0 && dy == 0)) {
            throw new IllegalArgumentException("numbers are -1,000 to 1,000, and a way is not (0, 0)");
        }
    }

    private void requirePlayer(int player) {
        if (!within(player, 0, roster.players() - 1)) {
            throw new IndexOutOfBoundsException("no such player");
        }
    }

    private void requireTeam(int team) {
        if (!within(team, 0, roster.teams() - 1)) {
            throw new IndexOutOfBoundsException("no such team");
        }
    }

    private void requirePony(int pony) {
        if (!within(pony, 0, stable.ponies() - 1)) {
            throw new IndexOutOfBoundsException("no such pony");
        }
    }

    private void requireUndrawnCup() {
        if (!tournament.isOpen() || tournament.isDrawn()) {
            throw new IllegalStateException("there is no cup, or it is drawn");
        }
    }

    private int halvesFor(int team, int other) {
        int difference = roster.sumOf(other) - roster.sumOf(team);
        if (difference <= 0) {
            return 0;
        }
        int sixths = difference * tournament.chukkas();
        return sixths / 6 * 2 + (sixths % 6 == 0 ? 0 : 1);
    }

    private void rideTeam(int team) {
        for (int place = 0; place < TEAM_SIZE; place++) {
            ridePlayer(roster.memberOf(team, place));
        }
    }

    private void ridePlayer(int player) {
        int chukkas = tournament.chukkas();
        planner.plan(stable, player, chukkas);
        for (int chukka = 0; chukka < chukkas; chukka++) {
            int pony = planner.ponyIn(chukka);
            if (pony == NONE) {
                chukkasAfoot++;
            } else {
                stable.ride(pony);
            }
        }
    }

    /** Players and the teams that they make. */
    private static final class Roster {
        private final int[] handicaps;
        private final boolean[] taken;
        private final int[] members;
        private int playerCount;
        private int teamCount;

        Roster() {
            handicaps = new int[MAX_PLAYERS];
            taken = new boolean[MAX_PLAYERS];
            members = new int[MAX_TEAMS * TEAM_SIZE];
            playerCount = 0;
            teamCount = 0;
        }

        int players() {
            return playerCount;
        }

        int teams() {
            return teamCount;
        }

        boolean playersAreFull() {
            return playerCount >= MAX_PLAYERS;
        }

        boolean teamsAreFull() {
            return teamCount >= MAX_TEAMS;
        }

        int addPlayer(int handicap) {
            handicaps[playerCount] = handicap;
            playerCount++;
            return playerCount - 1;
        }

        int changeHandicap(int player, int handicap) {
            int before = handicaps[player];
            handicaps[player] = handicap;
            return before;
        }

        boolean inTeam(int player) {
            return taken[player];
        }

        int addTeam(int a, int b, int c, int d) {
            int start = teamCount * TEAM_SIZE;
            seat(start, a);
            seat(start + 1, b);
            seat(start + 2, c);
            seat(start + 3, d);
            teamCount++;
            return teamCount - 1;
        }

        private void seat(int place, int player) {
            members[place] = player;
            taken[player] = true;
        }

        int memberOf(int team, int place) {
            return members[team * TEAM_SIZE + place];
        }

        int sumOf(int team) {
            int sum = 0;
            for (int place = 0; place < TEAM_SIZE; place++) {
                sum += handicaps[memberOf(team, place)];
            }
            return sum;
        }
    }

    /** The told numbers; they belong to no cup, so a new cup leaves them. */
    private static final class Noise {
        private final int[] values;
        private int filled;

        Noise() {
            values = new int[MAX_NOISE];
            filled = 0;
        }

        int size() {
            return filled;
        }

        int add(int value) {
            if (filled >= MAX_NOISE) {
                return NONE;
            }
            values[filled] = value;
            filled++;
            return filled;
        }

        void empty() {
            filled = 0;
        }

        /** What the number at a place, read without sign, leaves by a divisor of 1 or more. */
        int remainder(int place, int divisor) {
            if (place < 0 || place >= filled || divisor < 1) {
                return 0;
            }
            return (int) ((values[place] & 0xFFFFFFFFL) % divisor);
        }
    }

    /** A row of teams in which places may change. */
    private static final class Row {
        private final int[] teams;
        private int length;

        Row() {
            teams = new int[MAX_TEAMS];
            length = 0;
        }

        int size() {
            return length;
        }

        void empty() {
            length = 0;
        }

        void append(int team) {
            if (length < MAX_TEAMS) {
                teams[length] = team;
                length++;
            }
        }

        int at(int place) {
            return place >= 0 && place < length ? teams[place] : NONE;
        }

        boolean contains(int team) {
            for (int place = 0; place < length; place++) {
                if (teams[place] == team) {
                    return true;
                }
            }
            return false;
        }

        void exchange(int one, int other) {
            if (one < 0 || one >= length || other < 0 || other >= length) {
                return;
            }
            int team = teams[one];
            teams[one] = teams[other];
            teams[other] = team;
        }

        void removeAll(Row leaving) {
            int kept = 0;
            for (int place = 0; place < length; place++) {
                if (!leaving.contains(teams[place])) {
                    teams[kept] = teams[place];
                    kept++;
                }
            }
            length = kept;
        }
    }

    /** The cup; its two rows are those of the round's beginning until the round's last match has ended. */
    private static final class Tournament {
        private final Row entered;
        private final Row whole;
        private final Row hurt;
        private final Row losers;
        private boolean open;
        private boolean drawn;
        private int strengthLimit;
        private int matchChukkas;
        private int played;
        private int rounds;

        Tournament() {
            entered = new Row();
            whole = new Row();
            hurt = new Row();
            losers = new Row();
            open = false;
            drawn = false;
            strengthLimit = 0;
            matchChukkas = 0;
            played = 0;
            rounds = 0;
        }

        void beginAnew(int limit, int chukkas) {
            entered.empty();
            whole.empty();
            hurt.empty();
            losers.empty();
            open = true;
            drawn = false;
            strengthLimit = limit;
            matchChukkas = chukkas;
            played = 0;
            rounds = 0;
        }

        boolean isOpen() {
            return open;
        }

        boolean isDrawn() {
            return drawn;
        }

        int limit() {
            return strengthLimit;
        }

        int chukkas() {
            return matchChukkas;
        }

        int teams() {
            return entered.size();
        }

        int matchesPlayed() {
            return played;
        }

        int roundsBegun() {
            return rounds;
        }

        boolean holds(int team) {
            return entered.contains(team);
        }

        int admit(int team) {
            entered.append(team);
            return entered.size();
        }

        void shuffle(Noise numbers) {
            for (int place = 0; place < entered.size(); place++) {
                whole.append(entered.at(place));
            }
            int used = 0;
            for (int place = whole.size() - 1; place >= 1; place--) {
                whole.exchange(place, numbers.remainder(used, place + 1));
                used++;
            }
            drawn = true;
            rounds = 1;
        }

        /** The first (0) or second (1) team of the next match. Each match of a round has one loser: they count it. */
        int sideOfNext(int which) {
            int match = losers.size();
            if (whole.size() == 1 && hurt.size() == 1) {
                return match > 0 ? NONE : which == 0 ? whole.at(0) : hurt.at(0);
            }
            int matchesOfWhole = whole.size() / 2;
            if (match < matchesOfWhole) {
                return whole.at(2 * match + which);
            }
            int matchOfHurt = match - matchesOfWhole;
            return matchOfHurt < hurt.size() / 2 ? hurt.at(2 * matchOfHurt + which) : NONE;
        }

        void endMatch(int loser) {
            losers.append(loser);
            played++;
            if (sideOfNext(0) == NONE) {
                endRound();
            }
        }

        private void endRound() {
            hurt.removeAll(losers);
            for (int match = 0; match < losers.size(); match++) {
                if (whole.contains(losers.at(match))) {
                    hurt.append(losers.at(match));
                }
            }
            whole.removeAll(losers);
            losers.empty();
            if (!isWon()) {
                rounds++;
            }
        }

        private boolean isWon() {
            return drawn && whole.size() + hurt.size() == 1;
        }

        int placeOf(int team) {
            if (!drawn || !entered.contains(team)) {
                return 0;
            }
            boolean isWhole = whole.contains(team);
            if (!isWhole && !hurt.contains(team)) {
                return 3;
            }
            if (isWon()) {
                return 4;
            }
            return isWhole ? 1 : 2;
        }

        int inRow(int which, int k) {
            if (which == WHOLE) {
                return whole.at(k);
            }
            return which == HURT ? hurt.at(k) : NONE;
        }
    }

    /** The ponies and the day. */
    private static final class Stable {
        private final int[] owners;
        private final int[] led;
        private final int[] rides;
        private final int[] lameTill;
        private int ponyCount;
        private int day;

        Stable() {
            owners = new int[MAX_PONIES];
            led = new int[MAX_PONIES];
            rides = new int[MAX_PONIES];
            lameTill = new int[MAX_PONIES];
            ponyCount = 0;
            day = 0;
        }

        int ponies() {
            return ponyCount;
        }

        int today() {
            return day;
        }

        boolean isFull() {
            return ponyCount >= MAX_PONIES;
        }

        int poniesOf(int player) {
            int own = 0;
            for (int pony = 0; pony < ponyCount; pony++) {
                if (owners[pony] == player) {
                    own++;
                }
            }
            return own;
        }

        int addPony(int player) {
            owners[ponyCount] = player;
            ponyCount++;
            return ponyCount - 1;
        }

        boolean layUp(int pony, int till) {
            lameTill[pony] = till;
            return isLame(pony);
        }

        private boolean isLame(int pony) {
            return day < lameTill[pony];
        }

        int ownerOf(int pony) {
            return owners[pony];
        }

        int ledOf(int pony) {
            return led[pony];
        }

        int ridesToday(int pony) {
            return rides[pony];
        }

        int ridesLeft(int pony) {
            return isLame(pony) ? 0 : RIDES_A_DAY - rides[pony];
        }

        void ride(int pony) {
            rides[pony]++;
            led[pony] += MINUTES_A_CHUKKA;
        }

        int nextDay() {
            for (int pony = 0; pony < ponyCount; pony++) {
                rides[pony] = 0;
            }
            day++;
            return day;
        }
    }

    /**
     * Finds a player's mounts without trying all ways. A ride raises a pony from its level (what it has been led)
     * by one step. The rides that leave the least greatest LED, then the least second one and so on, are the lowest
     * ones: every ride from a level under the threshold, and some, whichever, from the threshold itself.
     */
    private static final class Planner {
        private final int[] ponies;
        private final int[] levels;
        private final int[] capacity;
        private final int[] due;
        private final boolean[] spare;
        private final int[] way;
        private int ponyCount;
        private int threshold;
        private int spareDue;

        Planner() {
            ponies = new int[MAX_PONIES_OF_ONE];
            levels = new int[MAX_PONIES_OF_ONE];
            capacity = new int[MAX_PONIES_OF_ONE];
            due = new int[MAX_PONIES_OF_ONE];
            spare = new boolean[MAX_PONIES_OF_ONE];
            way = new int[MAX_CHUKKAS];
            ponyCount = 0;
            threshold = 0;
            spareDue = 0;
        }

        int ponyIn(int chukka) {
            return chukka >= 0 && chukka < MAX_CHUKKAS ? way[chukka] : NONE;
        }

        void plan(Stable stable, int player, int chukkas) {
            int length = Math.min(chukkas, MAX_CHUKKAS);
            collect(stable, player, (length + 1) / 2);
            splitByThreshold(fillLowest(length));
            int last = NONE;
            for (int chukka = 0; chukka < length; chukka++) {
                last = firstThatCompletes(last, length - chukka - 1);
                way[chukka] = last == NONE ? NONE : ponies[last];
            }
        }

        /** A pony that may not go two chukkas running has at most every second one, so mostRides is under 2 in a short match. */
        private void collect(Stable stable, int player, int mostRides) {
            ponyCount = 0;
            for (int pony = 0; pony < stable.ponies() && ponyCount < MAX_PONIES_OF_ONE; pony++) {
                if (stable.ownerOf(pony) == player) {
                    ponies[ponyCount] = pony;
                    levels[ponyCount] = stable.ledOf(pony);
                    capacity[ponyCount] = Math.min(stable.ridesLeft(pony), mostRides);
                    ponyCount++;
                }
            }
        }

        /** Gives rides one after the other to the pony that is lowest then: how many; the last one's level is the threshold. */
        private int fillLowest(int chukkas) {
            for (int i = 0; i < ponyCount; i++) {
                due[i] = 0;
            }
            for (int rides = 0; rides < chukkas; rides++) {
                int lowest = lowestWithRoom();
                if (lowest == NONE) {
                    return rides;
                }
                threshold = levelNow(lowest);
                due[lowest]++;
            }
            return chukkas;
        }

        private int lowestWithRoom() {
            int lowest = NONE;
            for (int i = 0; i < ponyCount; i++) {
                if (due[i] < capacity[i] && (lowest == NONE || levelNow(i) < levelNow(lowest))) {
                    lowest = i;
                }
            }
            return lowest;
        }

        private int levelNow(int i) {
            return levels[i] + due[i] * MINUTES_A_CHUKKA;
        }

        /** Parts each pony's rides into those that every best way has and the one that it may have. */
        private void splitByThreshold(int rides) {
            spareDue = rides;
            for (int i = 0; i < ponyCount; i++) {
                due[i] = 0;
                spare[i] = false;
                for (int ride = 0; ride < capacity[i]; ride++) {
                    int level = levels[i] + ride * MINUTES_A_CHUKKA;
                    if (level < threshold) {
                        due[i]++;
                    } else if (level == threshold) {
                        spare[i] = true;
                    }
                }
                spareDue -= due[i];
            }
        }

        /** Takes the first pony with which a best way still goes on through the chukkas left, or none. */
        private int firstThatCompletes(int last, int chukkasLeft) {
            for (int i = 0; i < ponyCount; i++) {
                if (i != last && completesWith(i, chukkasLeft)) {
                    return i;
                }
            }
            return NONE;
        }

        private boolean completesWith(int i, int chukkasLeft) {
            if (due[i] > 0) {
                due[i]--;
                if (completes(i, chukkasLeft)) {
                    return true;
                }
                due[i]++;
                return false;
            }
            if (!spare[i] || spareDue <= 0) {
                return false;
            }
            spare[i] = false;
            spareDue--;
            if (completes(i, chukkasLeft)) {
                return true;
            }
            spare[i] = true;
            spareDue++;
            return false;
        }

        /**
         * No pony may have more rides than every second chukka gives it, and one just ridden can't have the first;
         * that is enough, for then the rides can always be kept apart. Chukkas that no ride needs are for none.
         */
        private boolean completes(int last, int chukkasLeft) {
            int sparesThatFit = 0;
            for (int i = 0; i < ponyCount; i++) {
                int most = (i == last ? chukkasLeft : chukkasLeft + 1) / 2;
                if (due[i] > most) {
                    return false;
                }
                if (spare[i] && due[i] < most) {
                    sparesThatFit++;
                }
            }
            return sparesThatFit >= spareDue;
        }
    }

    /** The ball, the riders and the law of the line. */
    private static final class Line {
        private final int[] sides;
        private final int[] xs;
        private final int[] ys;
        private final int[] dxs;
        private final int[] dys;
        private int riderCount;
        private boolean ballLies;
        private int ballX;
        private int ballY;
        private int ballDx;
        private int ballDy;

        Line() {
            sides = new int[MAX_RIDERS];
            xs = new int[MAX_RIDERS];
            ys = new int[MAX_RIDERS];
            dxs = new int[MAX_RIDERS];
            dys = new int[MAX_RIDERS];
            riderCount = 0;
            ballLies = false;
            ballX = 0;
            ballY = 0;
            ballDx = 0;
            ballDy = 0;
        }

        boolean hasBall() {
            return ballLies;
        }

        boolean isFull() {
            return riderCount >= MAX_RIDERS;
        }

        int riders() {
            return riderCount;
        }

        void placeBall(int x, int y, int dx, int dy) {
            ballLies = true;
            ballX = x;
            ballY = y;
            ballDx = dx;
            ballDy = dy;
            riderCount = 0;
        }

        int addRider(int side, int x, int y, int dx, int dy) {
            sides[riderCount] = side;
            xs[riderCount] = x;
            ys[riderCount] = y;
            dxs[riderCount] = dx;
            dys[riderCount] = dy;
            riderCount++;
            return riderCount - 1;
        }

        int firstByRight() {
            int best = NONE;
            for (int i = 0; i < riderCount; i++) {
                if (alongBall(i) > 0 && (best == NONE || goesBefore(i, best))) {
                    best = i;
                }
            }
            return best;
        }

        private long alongBall(int i) {
            return (long) dxs[i] * ballDx + (long) dys[i] * ballDy;
        }

        /** Both go along with the ball, so the greater squared cosine has the smaller angle; 8 * 10^18 fits a long. */
        private boolean goesBefore(int i, int j) {
            long cosineOfI = alongBall(i) * alongBall(i) * squared(dxs[j], dys[j]);
            long cosineOfJ = alongBall(j) * alongBall(j) * squared(dxs[i], dys[i]);
            if (cosineOfI != cosineOfJ) {
                return cosineOfI > cosineOfJ;
            }
            return fromBall(i) < fromBall(j);
        }

        private long fromBall(int i) {
            return squared(xs[i] - ballX, ys[i] - ballY);
        }

        private static long squared(int dx, int dy) {
            return (long) dx * dx + (long) dy * dy;
        }

        int crosser(int k) {
            int holder = firstByRight();
            if (holder == NONE) {
                return NONE;
            }
            int found = 0;
            for (int i = 0; i < riderCount; i++) {
                if (sides[i] != sides[holder] && meets(i, holder)) {
                    if (found == k) {
                        return i;
                    }
                    found++;
                }
            }
            return NONE;
        }

        /** For stretches on one straight line both straddle tests hold, and their extents alone decide. */
        private boolean meets(int i, int j) {
            return straddles(i, j) && straddles(j, i)
                    && overlap(xs[i], dxs[i], xs[j], dxs[j]) && overlap(ys[i], dys[i], ys[j], dys[j]);
        }

        private boolean straddles(int i, int j) {
            long start = turn(i, xs[j], ys[j]);
            long end = turn(i, xs[j] + dxs[j], ys[j] + dys[j]);
            return start <= 0 && end >= 0 || start >= 0 && end <= 0;
        }

        private long turn(int i, int x, int y) {
            return (long) dxs[i] * (y - ys[i]) - (long) dys[i] * (x - xs[i]);
        }

        private static boolean overlap(int start, int way, int otherStart, int otherWay) {
            int least = Math.min(start, start + way);
            int greatest = Math.max(start, start + way);
            int otherLeast = Math.min(otherStart, otherStart + otherWay);
            int otherGreatest = Math.max(otherStart, otherStart + otherWay);
            return least <= otherGreatest && otherLeast <= greatest;
        }
    }
}

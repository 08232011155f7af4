/** What a season answers to questions, as a text, so that two moments can be compared. */
final class Picture {
    private final PoloSeason x;
    private final StringBuilder text = new StringBuilder();

    private Picture(PoloSeason x) {
        this.x = x;
    }

    /** At most some 170 calls: a season may be built, pictured, changed and pictured again within its 512. */
    static String of(PoloSeason x) {
        Picture picture = new Picture(x);
        picture.counts();
        picture.cup();
        picture.ponies();
        picture.line();
        return picture.text.toString();
    }

    private void add(String name, int answer) {
        text.append(name).append(answer).append(' ');
    }

    private void counts() {
        for (int what = 0; what <= 8; what++) {
            add(" ", x.count(what));
        }
        add("afoot ", x.afoot());
    }

    private void cup() {
        for (int team = 0; team < x.count(1); team++) {
            add("strength ", x.strength(team));
            add("where ", x.where(team));
        }
        for (int which = 0; which <= 1; which++) {
            add("next ", x.next(which));
            add("given ", x.given(which));
            for (int k = 0; k < 8; k++) {
                add("row ", x.row(which, k));
            }
        }
    }

    /** The first ponies and the last one, and the first player's and the last one's mounts. */
    private void ponies() {
        int ponies = x.count(2);
        for (int pony = 0; pony < ponies; pony++) {
            if (pony < 12 || pony == ponies - 1) {
                add("led ", x.told(pony, 1));
                add("today ", x.told(pony, 2));
            }
        }
        int players = x.count(0);
        for (int player = 0; player < players; player++) {
            if (player == 0 || player == players - 1) {
                for (int chukka = 0; chukka < 6; chukka++) {
                    add("mount ", x.mount(player, 6, chukka));
                }
            }
        }
    }

    private void line() {
        add("right ", x.right());
        for (int k = 0; k < 8; k++) {
            add("foul ", x.foul(k));
        }
    }
}

/** Long runs of calls on the class and on NaiveCabinet, which answer alike or one of them is wrong. */
public final class NaiveTest {
    private static final int RUNS = 400;
    private static final int CALLS = 512;
    private static final String[] KINDS = {"rain", "wind", "sun"};
    private static final String[] SEASONS = {"spring", "summer", "autumn", "winter"};
    private static final int[] WILD = {Integer.MIN_VALUE, -1000, -5, -4, -3, -2, -1, 6, 7, 10, 13, 22, 60, 61, 99, 600,
        1000, Integer.MAX_VALUE};

    private long chance;
    private int ministers;
    private WindCabinet cabinet;
    private NaiveCabinet naive;
    private int called;
    private boolean mild;

    private NaiveTest(long seed) {
        chance = seed;
    }

    public static void main(String[] args) {
        for (int run = 0; run < RUNS; run++) {
            new NaiveTest(run * 7919L + 1).run(run);
        }
        Check.finish();
    }

    private int below(int n) {
        chance = chance * 6364136223846793005L + 1442695040888963407L;
        return (int) ((chance >>> 33) % n);
    }

    private int between(int least, int most) {
        return least + below(most - least + 1);
    }

    private boolean once(int in) {
        return below(in) == 0;
    }

    private int wildOr(int number) {
        return once(60) ? WILD[below(WILD.length)] : number;
    }

    private void run(int run) {
        cabinet = new WindCabinet();
        naive = new NaiveCabinet();
        ministers = between(1, 6);
        called = 0;
        // In mild runs days come about, so that years go far and ministers have time to be angry.
        mild = once(2);
        if (!once(10)) {
            for (int sort = 0; sort < 6; sort++) {
                tell(run, sort, true);
                tell(run, sort, once(2));
            }
        }
        while (called < CALLS) {
            if (once(25)) {
                tell(run, below(6), once(5));
            } else {
                called++;
                ask(run);
            }
        }
    }

    // ---- texts

    private void tell(int run, int sort, boolean further) {
        String text = textOf(sort);
        if (once(12)) {
            text = spoilt(text);
        }
        feed(run, text);
        int place = further ? -1 : wildOr(below(2));
        int told = wildOr(sort);
        due(run, "text", told, place, cabinet.text(told, place), naive.text(told, place));
        due(run, "fault", 0, told, cabinet.fault(0), naive.fault(0));
        due(run, "fault", 1, told, cabinet.fault(1), naive.fault(1));
        called += 3;
    }

    private void feed(int run, String text) {
        for (int i = 0; i < text.length(); i += 20) {
            int a = Check.word(text, i);
            int b = Check.word(text, i + 4);
            int c = Check.word(text, i + 8);
            int d = Check.word(text, i + 12);
            int e = Check.word(text, i + 16);
            due(run, "feed", i, 0, cabinet.feed(a, b, c, d, e), naive.feed(a, b, c, d, e));
            called++;
        }
        int end = wildOr(text.length());
        due(run, "end", end, 0, cabinet.end(end), naive.end(end));
        called++;
    }

    private String spoilt(String text) {
        StringBuilder spoilt = new StringBuilder(text);
        int at = below(text.length() + 1);
        String signs = " ;0a9\nZ\u00e9-";
        switch (below(5)) {
            case 0 -> spoilt.insert(at, signs.charAt(below(signs.length())));
            case 1 -> spoilt.setLength(at);
            case 2 -> spoilt.insert(at, "123");
            case 3 -> {
                if (at < text.length()) {
                    spoilt.deleteCharAt(at);
                }
            }
            default -> {
                if (at < text.length()) {
                    spoilt.setCharAt(at, signs.charAt(below(signs.length())));
                }
            }
        }
        return spoilt.length() > 600 ? text : spoilt.toString();
    }

    private String textOf(int sort) {
        int most = new int[] {0, mild ? 2 : 4, mild ? 25 : 12, 4, mild ? 3 : 6, 6}[sort];
        int lines = once(30) ? most * 4 : below(most + 1);
        StringBuilder text = new StringBuilder();
        if (sort == 0) {
            republic(text);
        }
        for (int i = 0; i < lines; i++) {
            line(text, sort);
        }
        while (text.length() > 600) {
            text.setLength(text.lastIndexOf(";", text.length() - 2) + 1);
        }
        return text.toString();
    }

    private void add(StringBuilder text, Object... parts) {
        for (Object part : parts) {
            text.append(part).append(once(20) ? "\n " : " ");
        }
        if (once(2)) {
            text.setLength(text.length() - 1);
        }
        text.append(';');
    }

    /** Mostly what may be there, now and then what may not. */
    private int number(int least, int most) {
        return once(600) ? between(0, 99) : between(least, most);
    }

    private int who() {
        return number(0, Math.max(0, ministers - 1));
    }

    private String kind() {
        return KINDS[below(3)];
    }

    private String season() {
        return SEASONS[below(4)];
    }

    private void republic(StringBuilder text) {
        ministers = once(40) ? 0 : once(20) ? 7 : between(1, 6);
        int wanted = between(1, 9);
        for (int m = 0; m < ministers; m++) {
            add(text, "minister", number(1, 9), number(0, once(3) ? 27 : mild ? 18 : 10), number(0, 3), number(0, 9));
        }
        if (ministers == 0) {
            return;
        }
        for (int i = below(14); i > 0 && text.length() < 440; i--) {
            add(text, "want", who(), season(), number(0, wanted), number(0, wanted), number(0, wanted));
        }
        for (int i = below(3); i > 0; i--) {
            add(text, "veto", who());
        }
        for (int i = below(4); i > 0 && ministers > 1; i--) {
            int first = who();
            add(text, "feud", first, (first + between(once(40) ? 0 : 1, ministers - 1)) % ministers);
        }
        for (int i = below(3); i > 0; i--) {
            add(text, "office", kind(), who());
        }
        String[] words = {"quota", "spite", "cloud", "ground", "heat"};
        int water = once(mild ? 4 : 2) ? 12 : 99;
        int[] most = {(mild ? 3 : 5) * ministers, mild ? 4 : 9, water, water, water};
        for (int i = 0; i < 5; i++) {
            if (!once(3)) {
                add(text, words[i], number(1, most[i]));
            }
        }
    }

    private void line(StringBuilder text, int sort) {
        switch (sort) {
            case 1 -> order(text);
            case 2 -> deed(text);
            case 3 -> add(text, "said", who(), once(2) ? "yes" : "no");
            case 4 -> was(text);
            case 5 -> add(text, "share", who(), number(0, 99));
            default -> { }
        }
    }

    private void order(StringBuilder text) {
        switch (below(4)) {
            case 0 -> add(text, "no", kind(), once(3) ? "below" : "above", number(0, 9));
            case 1 -> add(text, "no", kind(), once(3) ? "below" : "above", number(0, 9), "in", season());
            case 2 -> add(text, "sum", number(5, 27));
            default -> add(text, "after", kind(), number(0, 9), kind(), number(0, 9));
        }
    }

    private void deed(StringBuilder text) {
        switch (below(12)) {
            case 0 -> add(text, "season", season());
            case 1 -> add(text, "office", kind(), who());
            case 2 -> add(text, "dismiss", who());
            case 3 -> add(text, "recall", who());
            case 4 -> add(text, "pass");
            default -> add(text, "move", who(), number(0, once(3) ? 9 : 3), number(0, mild ? 4 : 6), number(0, 6));
        }
    }

    /** Half of the days are some proposal, so that seats may fit. */
    private void was(StringBuilder text) {
        int season = below(4);
        int[] day = new int[3];
        for (int kind = 0; kind < 3; kind++) {
            int want = cabinet.minister(0, below(Math.max(1, ministers)), 10 + 3 * season + kind);
            day[kind] = want >= 0 && !once(6) ? want : number(0, 9);
        }
        add(text, "was", SEASONS[season], day[0], day[1], day[2]);
    }

    // ---- questions

    private void due(int run, String call, int a, int b, long got, long want) {
        Check.due("run " + run + ", call " + called + ": " + call + " (" + a + ", " + b + ")", got, want);
    }

    private static int number(boolean answer) {
        return answer ? 1 : 0;
    }

    private void ask(int run) {
        int place = wildOr(once(4) ? 1 : 0);
        int other = wildOr(once(3) ? 1 : 0);
        switch (below(26)) {
            case 0 -> askOfTold(run, place);
            case 1 -> askOfTold(run, other);
            case 2 -> {
                int k = wildOr(below(4));
                due(run, "image", k, 0, number(cabinet.image(k)), number(naive.image(k)));
            }
            case 3 -> {
                int k = wildOr(below(4));
                if (once(3)) {
                    due(run, "again", k, 0, number(cabinet.again(k)), number(naive.again(k)));
                }
            }
            case 4 -> {
                int what = wildOr(below(4));
                due(run, "fault", what, 0, cabinet.fault(what), naive.fault(what));
                due(run, "count", what, 0, cabinet.count(what), naive.count(what));
            }
            case 5 -> askFed(run);
            case 6, 7, 8, 9 -> askOfYear(run, place, other);
            case 10, 11 -> {
                int n = wildOr(between(0, 60));
                int what = wildOr(below(7));
                int seed = once(9) ? WILD[below(WILD.length)] : below(1 << 30) * 3;
                due(run, "drawn", n, what, cabinet.drawn(place, seed, n, what), naive.drawn(place, seed, n, what));
            }
            case 12, 13, 14, 15, 16 -> askOfMotion(run, place);
            default -> askOfPower(run, place, other);
        }
    }

    private void askFed(int run) {
        int n = below(1 << 30);
        due(run, "feed", n, 0, cabinet.feed(n, -n, n * 5, n * 7, n * 11), naive.feed(n, -n, n * 5, n * 7, n * 11));
        int end = wildOr(between(0, 40));
        due(run, "end", end, 0, cabinet.end(end), naive.end(end));
    }

    private void askOfTold(int run, int place) {
        int what = wildOr(below(13));
        int k = wildOr(between(-1, 6));
        int part = k == -1 && !once(3) ? 0 : wildOr(below(5));
        due(run, "republic", place, what, cabinet.republic(place, what), naive.republic(place, what));
        int of = wildOr(below(22));
        due(run, "minister", k, of, cabinet.minister(place, k, of), naive.minister(place, k, of));
        due(run, "order", k, part, cabinet.order(place, k, part), naive.order(place, k, part));
        due(run, "deed", k, part, cabinet.deed(place, k, part), naive.deed(place, k, part));
        due(run, "leak", k, part, cabinet.leak(place, k, part), naive.leak(place, k, part));
        due(run, "was", k, part, cabinet.was(place, k, part), naive.was(place, k, part));
    }

    private void askOfYear(int run, int place, int other) {
        int orders = wildOr(once(4) ? 1 : 0);
        int stop = naive.stop(place, orders, other);
        due(run, "stop", place, other, cabinet.stop(place, orders, other), stop);
        int n = once(3) ? stop : wildOr(below(Math.max(1, stop + 2)));
        for (int i = 0; i < 3; i++) {
            int what = wildOr(once(2) ? below(13) : between(20, 26));
            due(run, "state", n, what, cabinet.state(place, orders, other, n, what),
                    naive.state(place, orders, other, n, what));
        }
    }

    private void askOfMotion(int run, int place) {
        int by = wildOr(below(Math.max(1, ministers)));
        int season = wildOr(below(4));
        int rain = wildOr(below(10));
        int wind = wildOr(below(10));
        int sun = wildOr(below(10));
        int ahead = once(2) ? -1 : wildOr(below(1000));
        boolean which = once(2);
        int k = wildOr(between(-1, 3));
        due(run, "off", by, season, cabinet.off(place, by, season, rain, wind, sun),
                naive.off(place, by, season, rain, wind, sun));
        due(run, "vote", by, season, cabinet.vote(place, by, season, rain, wind, sun, which),
                naive.vote(place, by, season, rain, wind, sun, which));
        due(run, "broken", season, ahead, cabinet.broken(place, season, rain, wind, sun, ahead),
                naive.broken(place, season, rain, wind, sun, ahead));
        due(run, "bribe", by, season, cabinet.bribe(place, by, season, rain, wind, sun, which),
                naive.bribe(place, by, season, rain, wind, sun, which));
        due(run, "lobby", by, k, cabinet.lobby(place, by, season, rain, wind, sun, k),
                naive.lobby(place, by, season, rain, wind, sun, k));
    }

    private void askOfPower(int run, int place, int other) {
        int by = wildOr(below(Math.max(1, ministers)));
        int season = wildOr(below(4));
        boolean which = once(2);
        int what = wildOr(between(-3, 6));
        due(run, "coalition", place, what, cabinet.coalition(place, what), naive.coalition(place, what));
        due(run, "reshuffle", place, 0, cabinet.reshuffle(place, which), naive.reshuffle(place, which));
        due(run, "seats", place, what, cabinet.seats(place, other, what), naive.seats(place, other, what));
        int of = wildOr(between(0, 12));
        due(run, "bargain", place, of, cabinet.bargain(place, other, of), naive.bargain(place, other, of));
        int k = wildOr(new int[] {0, 1, 10, 11, 12, 13, 14, 15, 16, 17}[below(10)]);
        due(run, "nature", place, k, cabinet.nature(place, other, k), naive.nature(place, other, k));
        if (once(4)) {
            due(run, "power", place, by, cabinet.power(place, by, which), naive.power(place, by, which));
        }
        if (once(4)) {
            int orders = once(3) ? -1 : other;
            int a = wildOr(below(3));
            due(run, "agreed", by, a, cabinet.agreed(place, orders, by, season, a),
                    naive.agreed(place, orders, by, season, a));
        }
        if (once(3)) {
            int f = wildOr(new int[] {0, 1, 2, 3, 3, 10, 11, 12, 20, 21, 22}[below(11)]);
            due(run, "fits", by, f, cabinet.fits(place, other, by, season, f), naive.fits(place, other, by, season, f));
        }
    }
}

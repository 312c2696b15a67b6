import java.util.ArrayList;
import java.util.Arrays;
import java.util.HashSet;
import java.util.List;
import java.util.Set;
import java.util.TreeSet;
import java.util.regex.Matcher;
import java.util.regex.Pattern;

/**
 * The document once more, in the plainest way that the Java library allows: texts are kept as texts and
 * read anew for each call, faults of grammar are found by a regular expression, counts by trying all.
 */
final class NaiveCabinet {
    private static final List<String> KINDS = List.of("rain", "wind", "sun");
    private static final List<String> SEASONS = List.of("spring", "summer", "autumn", "winter");
    private static final String KIND = "(?:rain|wind|sun) ";
    private static final String SEASON = "(?:spring|summer|autumn|winter) ";
    private static final Pattern[] GRAMMARS = {
        Pattern.compile("(?:(?:minister N N N N |want N " + SEASON + "N N N |veto N |feud N N |office " + KIND
                + "N |(?:quota|spite|cloud|ground|heat) N ); )*"),
        Pattern.compile("(?:(?:no " + KIND + "(?:above|below) N (?:in " + SEASON + ")?|sum N |after " + KIND + "N "
                + KIND + "N ); )*"),
        Pattern.compile("(?:(?:move N N N N |season " + SEASON + "|office " + KIND
                + "N |dismiss N |recall N |pass ); )*"),
        Pattern.compile("(?:said N (?:yes|no) ; )*"),
        Pattern.compile("(?:was " + SEASON + "N N N ; )*"),
        Pattern.compile("(?:share N N ; )*"),
    };

    private static final class Token {
        final int place;
        final String text;

        Token(int place, String text) {
            this.place = place;
            this.text = text;
        }

        boolean isNumber() {
            return text.matches("[0-9]{1,2}");
        }

        int number() {
            return Integer.parseInt(text);
        }

        String sign() {
            return isNumber() ? "N" : text.matches("[a-z]+|;") ? text : "!";
        }
    }

    private static final class Kept {
        String tape = "";
        int fault = 0;
        int place = -1;
        final List<List<String>> texts = new ArrayList<>();

        Kept() {
            for (int sort = 0; sort < 6; sort++) {
                texts.add(new ArrayList<>());
            }
        }

        Kept copy() {
            Kept copy = new Kept();
            copy.tape = tape;
            copy.fault = fault;
            copy.place = place;
            for (int sort = 0; sort < 6; sort++) {
                copy.texts.get(sort).addAll(texts.get(sort));
            }
            return copy;
        }
    }

    private static final class Minister {
        int votes;
        int yield;
        int temper;
        int price;
        boolean veto;
        final Set<Integer> feuds = new TreeSet<>();
        final int[][] wants = new int[4][3];
    }

    private static final class Republic {
        final List<Minister> ministers = new ArrayList<>();
        final int[] offices = new int[3];
        int quota = 10;
        int spite = 2;
        int cloud = 50;
        int ground = 50;
        int heat = 20;

        Republic(List<List<String>> lines) {
            for (List<String> line : lines) {
                if (line.get(0).equals("minister")) {
                    Minister m = new Minister();
                    m.votes = number(line, 1);
                    m.yield = number(line, 2);
                    m.temper = number(line, 3);
                    m.price = number(line, 4);
                    ministers.add(m);
                }
            }
            for (List<String> line : lines) {
                switch (line.get(0)) {
                    case "want" -> {
                        for (int k = 0; k < 3; k++) {
                            who(line, 1).wants[SEASONS.indexOf(line.get(2))][k] = number(line, 3 + k);
                        }
                    }
                    case "veto" -> who(line, 1).veto = true;
                    case "feud" -> {
                        who(line, 1).feuds.add(number(line, 2));
                        who(line, 2).feuds.add(number(line, 1));
                    }
                    case "office" -> offices[KINDS.indexOf(line.get(1))] = number(line, 2);
                    case "quota" -> quota = number(line, 1);
                    case "spite" -> spite = number(line, 1);
                    case "cloud" -> cloud = number(line, 1);
                    case "ground" -> ground = number(line, 1);
                    case "heat" -> heat = number(line, 1);
                    default -> { }
                }
            }
        }

        Minister who(List<String> line, int i) {
            return ministers.get(number(line, i));
        }

        int size() {
            return ministers.size();
        }

        boolean has(int m) {
            return m >= 0 && m < size();
        }

        int off(int m, int season, int[] day) {
            int[] want = ministers.get(m).wants[season];
            return Math.abs(want[0] - day[0]) + Math.abs(want[1] - day[1]) + Math.abs(want[2] - day[2]);
        }

        int bound(int m, int by) {
            Minister minister = ministers.get(m);
            return minister.feuds.contains(by) ? minister.yield - spite : minister.yield;
        }

        Set<Integer> agree(int by, int season, int[] day) {
            Set<Integer> agree = new TreeSet<>();
            for (int m = 0; m < size(); m++) {
                if (m == by || off(m, season, day) <= bound(m, by)) {
                    agree.add(m);
                }
            }
            return agree;
        }

        int votes(Set<Integer> of) {
            int votes = 0;
            for (int m : of) {
                votes += ministers.get(m).votes;
            }
            return votes;
        }

        boolean passes(Set<Integer> there, Set<Integer> agree) {
            Set<Integer> both = new TreeSet<>(there);
            both.retainAll(agree);
            for (int m : there) {
                if (ministers.get(m).veto && !agree.contains(m)) {
                    return false;
                }
            }
            return votes(both) >= quota;
        }

        Set<Integer> all() {
            return setOf((1 << size()) - 1);
        }
    }

    private static final class Run {
        final Republic republic;
        final Set<Integer> there;
        final Set<Integer> resigned = new TreeSet<>();
        final int[] anger = new int[6];
        final int[] offices;
        int season;
        int[] water;
        int heat;
        int committees;
        final List<int[]> days = new ArrayList<>();

        Run(Republic republic) {
            this.republic = republic;
            there = republic.all();
            offices = republic.offices.clone();
            water = new int[] {republic.cloud, republic.ground};
            heat = republic.heat;
        }

        boolean can(int[] day) {
            int hot = heat + day[2] - day[1];
            return day[0] <= water[0] && 0 <= hot && hot <= 99;
        }

        void day(int[] day) {
            water[0] -= day[0];
            water[1] += day[0];
            for (int unit = 0; unit < day[2] && water[1] > 0; unit++) {
                water[1]--;
                water[0]++;
            }
            heat = heat + day[2] - day[1];
            days.add(day);
        }

        void committee() {
            committees++;
            day(new int[] {water[0] > 0 ? 1 : 0, 0, 0});
        }

        void motion(int by, int[] day) {
            Set<Integer> agree = republic.agree(by, season, day);
            if (!republic.passes(there, agree)) {
                committee();
                return;
            }
            day(day);
            for (int m : new ArrayList<>(there)) {
                anger[m] = agree.contains(m) ? 0 : anger[m] + 1;
                int temper = republic.ministers.get(m).temper;
                if (temper != 0 && anger[m] == temper) {
                    there.remove(m);
                    resigned.add(m);
                }
            }
        }

        /** False if the deed can't be. */
        boolean deed(List<String> line, List<List<String>> orders) {
            switch (line.get(0)) {
                case "move": {
                    int by = number(line, 1);
                    int[] day = {number(line, 2), number(line, 3), number(line, 4)};
                    int[] ahead = days.isEmpty() ? null : days.get(days.size() - 1);
                    if (!there.contains(by) || !can(day) || firstBroken(orders, season, day, ahead) >= 0) {
                        return false;
                    }
                    motion(by, day);
                    return true;
                }
                case "season":
                    season = SEASONS.indexOf(line.get(1));
                    return true;
                case "office":
                    offices[KINDS.indexOf(line.get(1))] = number(line, 2);
                    return there.contains(number(line, 2));
                case "dismiss":
                    return there.remove(number(line, 1));
                case "recall": {
                    int m = number(line, 1);
                    anger[m] = 0;
                    return republic.has(m) && there.add(m);
                }
                default:
                    committee();
                    return true;
            }
        }
    }

    private Kept kept = new Kept();
    private final Kept[] images = new Kept[3];

    // ---- helpers

    private static int number(List<String> line, int i) {
        return Integer.parseInt(line.get(i));
    }

    private static Set<Integer> setOf(int bits) {
        Set<Integer> set = new TreeSet<>();
        for (int i = 0; i < 31; i++) {
            if ((bits >> i & 1) == 1) {
                set.add(i);
            }
        }
        return set;
    }

    private static int bits(Set<Integer> set) {
        int bits = 0;
        for (int i : set) {
            bits |= 1 << i;
        }
        return bits;
    }

    private static int[] day(int number) {
        return new int[] {number / 100, number / 10 % 10, number % 10};
    }

    private static int number(int[] day) {
        return 100 * day[0] + 10 * day[1] + day[2];
    }

    private static boolean good(int season, int... amounts) {
        return season >= 0 && season < 4 && Arrays.stream(amounts).allMatch(a -> a >= 0 && a <= 9);
    }

    private static List<Token> tokens(String tape) {
        List<Token> tokens = new ArrayList<>();
        Matcher m = Pattern.compile("[a-z]+|[0-9]+|[^ \n]", Pattern.DOTALL).matcher(tape);
        while (m.find()) {
            tokens.add(new Token(m.start(), m.group()));
        }
        return tokens;
    }

    private static List<List<String>> lines(String text) {
        List<List<String>> lines = new ArrayList<>();
        List<String> line = new ArrayList<>();
        for (Token token : tokens(text)) {
            if (token.text.equals(";")) {
                lines.add(line);
                line = new ArrayList<>();
            } else {
                line.add(token.text);
            }
        }
        return lines;
    }

    private Republic republicAt(int at) {
        return at >= 0 && at < kept.texts.get(0).size() ? new Republic(lines(kept.texts.get(0).get(at))) : null;
    }

    private List<List<String>> linesAt(int sort, int at) {
        return at >= 0 && at < kept.texts.get(sort).size() ? lines(kept.texts.get(sort).get(at)) : null;
    }

    private static int told(List<String> line, int i) {
        if (i >= line.size()) {
            return -1;
        }
        String s = line.get(i);
        if (KINDS.contains(s)) {
            return KINDS.indexOf(s);
        }
        return SEASONS.contains(s) ? SEASONS.indexOf(s) : Integer.parseInt(s);
    }

    // ---- the tape and the texts

    int feed(int a, int b, int c, int d, int e) {
        if (kept.tape.length() > 580) {
            return -1;
        }
        StringBuilder tape = new StringBuilder(kept.tape);
        for (int number : new int[] {a, b, c, d, e}) {
            tape.append((char) (number >>> 24)).append((char) (number >> 16 & 255));
            tape.append((char) (number >> 8 & 255)).append((char) (number & 255));
        }
        kept.tape = tape.toString();
        return kept.tape.length();
    }

    int end(int n) {
        if (n < 0 || n > kept.tape.length()) {
            return -1;
        }
        kept.tape = kept.tape.substring(0, n);
        return n;
    }

    int text(int sort, int at) {
        String tape = kept.tape;
        kept.tape = "";
        kept.fault = 0;
        kept.place = -1;
        if (sort < 0 || sort > 5 || at < -1 || at >= kept.texts.get(sort).size()) {
            return -2;
        }
        List<String> texts = kept.texts.get(sort);
        if (at == -1 && texts.size() == 2) {
            return -2;
        }
        findFault(sort, tape);
        if (kept.fault != 0) {
            return -1;
        }
        if (at == -1) {
            texts.add(tape);
            return texts.size() - 1;
        }
        texts.set(at, tape);
        return at;
    }

    private void findFault(int sort, String tape) {
        List<Token> tokens = tokens(tape);
        StringBuilder signs = new StringBuilder();
        for (Token token : tokens) {
            signs.append(token.sign()).append(' ');
            Matcher m = GRAMMARS[sort].matcher(signs);
            if (!m.matches() && !m.hitEnd()) {
                fault(1, token.place);
                return;
            }
        }
        if (!GRAMMARS[sort].matcher(signs).matches()) {
            fault(1, tape.length());
            return;
        }
        findNumberFault(sort, tokens);
        if (kept.fault == 0 && sort == 0) {
            findAbsent(tape);
        }
    }

    private void fault(int fault, int place) {
        kept.fault = fault;
        kept.place = place;
    }

    private void findNumberFault(int sort, List<Token> tokens) {
        int counted = 0;
        String word = "";
        int position = 0;
        List<Token> line = new ArrayList<>();
        for (Token token : tokens) {
            if (line.isEmpty()) {
                word = token.text;
                position = 0;
                counted += sort == 0 && !word.equals("minister") ? 0 : 1;
                if (sort != 5 && counted > new int[] {6, 8, 40, 8, 8}[sort]) {
                    fault(3, token.place);
                    return;
                }
            } else if (token.isNumber()) {
                int[] range = range(word, position);
                position++;
                boolean self = word.equals("feud") && position == 2 && token.number() == line.get(1).number();
                if (token.number() < range[0] || token.number() > range[1] || self) {
                    fault(2, token.place);
                    return;
                }
            }
            line.add(token);
            if (token.text.equals(";")) {
                line.clear();
            }
        }
    }

    private static int[] range(String word, int position) {
        switch (word) {
            case "minister":
                return new int[][] {{1, 9}, {0, 27}, {0, 9}, {0, 9}}[position];
            case "want", "move", "share":
                return position == 0 ? new int[] {0, 5} : new int[] {0, word.equals("share") ? 99 : 9};
            case "veto", "feud", "office", "dismiss", "recall", "said":
                return new int[] {0, 5};
            case "quota":
                return new int[] {1, 60};
            case "cloud", "ground", "heat":
                return new int[] {0, 99};
            case "sum":
                return new int[] {0, 27};
            default:
                return new int[] {0, 9};
        }
    }

    private void findAbsent(String tape) {
        int ministers = 0;
        int most = -1;
        for (List<String> line : lines(tape)) {
            switch (line.get(0)) {
                case "minister" -> ministers++;
                case "want", "veto" -> most = Math.max(most, number(line, 1));
                case "feud" -> most = Math.max(most, Math.max(number(line, 1), number(line, 2)));
                case "office" -> most = Math.max(most, number(line, 2));
                default -> { }
            }
        }
        if (most >= ministers) {
            fault(4, tape.length());
        }
    }

    int fault(int what) {
        return what == 0 ? kept.fault : what == 1 ? kept.place : -1;
    }

    int count(int sort) {
        return sort >= 0 && sort <= 5 ? kept.texts.get(sort).size() : -2;
    }

    boolean image(int k) {
        if (k < 0 || k > 2) {
            return false;
        }
        images[k] = kept.copy();
        return true;
    }

    boolean again(int k) {
        if (k < 0 || k > 2 || images[k] == null) {
            return false;
        }
        kept = images[k].copy();
        return true;
    }

    // ---- what is told

    int republic(int republic, int what) {
        Republic r = republicAt(republic);
        if (r == null) {
            return -1;
        }
        if (what >= 10 && what <= 12) {
            return r.offices[what - 10];
        }
        int[] all = {r.size(), r.quota, r.spite, r.cloud, r.ground, r.heat};
        return what >= 0 && what < all.length ? all[what] : -1;
    }

    int minister(int republic, int minister, int what) {
        Republic r = republicAt(republic);
        if (r == null || !r.has(minister)) {
            return -1;
        }
        Minister m = r.ministers.get(minister);
        if (what >= 10 && what <= 21) {
            return m.wants[(what - 10) / 3][(what - 10) % 3];
        }
        int[] all = {m.votes, m.yield, m.temper, m.price, m.veto ? 1 : 0, bits(m.feuds)};
        return what >= 0 && what < all.length ? all[what] : -1;
    }

    int off(int republic, int minister, int season, int rain, int wind, int sun) {
        Republic r = republicAt(republic);
        return r == null || !r.has(minister) || !good(season, rain, wind, sun) ? -1
                : r.off(minister, season, new int[] {rain, wind, sun});
    }

    int vote(int republic, int by, int season, int rain, int wind, int sun, boolean passes) {
        Republic r = republicAt(republic);
        if (r == null || !r.has(by) || !good(season, rain, wind, sun)) {
            return -1;
        }
        Set<Integer> agree = r.agree(by, season, new int[] {rain, wind, sun});
        return !passes ? bits(agree) : r.passes(r.all(), agree) ? 1 : 0;
    }

    int order(int orders, int k, int what) {
        List<List<String>> lines = linesAt(1, orders);
        if (lines == null || what < 0 || what > 4) {
            return -2;
        }
        if (k == -1) {
            return what == 0 ? lines.size() : -2;
        }
        if (k < 0 || k >= lines.size()) {
            return -2;
        }
        List<String> line = new ArrayList<>(lines.get(k));
        if (what == 0) {
            return line.get(0).equals("sum") ? 2 : line.get(0).equals("after") ? 3 : line.get(2).equals("above") ? 0 : 1;
        }
        line.removeAll(List.of("above", "below", "in"));
        return told(line, what);
    }

    int deed(int year, int k, int what) {
        List<List<String>> lines = linesAt(2, year);
        if (lines == null || what < 0 || what > 4) {
            return -2;
        }
        if (k == -1) {
            return what == 0 ? lines.size() : -2;
        }
        if (k < 0 || k >= lines.size()) {
            return -2;
        }
        List<String> words = List.of("move", "season", "office", "dismiss", "recall", "pass");
        return what == 0 ? words.indexOf(lines.get(k).get(0)) : told(lines.get(k), what);
    }

    int leak(int leaks, int k, int what) {
        List<List<String>> lines = linesAt(3, leaks);
        if (lines == null || what < 0 || what > 1) {
            return -2;
        }
        if (k == -1) {
            return what == 0 ? lines.size() : -2;
        }
        if (k < 0 || k >= lines.size()) {
            return -2;
        }
        return what == 0 ? number(lines.get(k), 1) : lines.get(k).get(2).equals("yes") ? 1 : 0;
    }

    int was(int summer, int k, int what) {
        List<List<String>> lines = linesAt(4, summer);
        if (lines == null || what < 0 || what > 3) {
            return -2;
        }
        if (k == -1) {
            return what == 0 ? lines.size() : -2;
        }
        return k < 0 || k >= lines.size() ? -2 : told(lines.get(k), what + 1);
    }

    // ---- orders and years

    int broken(int orders, int season, int rain, int wind, int sun, int ahead) {
        List<List<String>> lines = linesAt(1, orders);
        if (lines == null || !good(season, rain, wind, sun) || ahead < -1 || ahead > 999) {
            return -1;
        }
        return firstBroken(lines, season, new int[] {rain, wind, sun}, ahead == -1 ? null : day(ahead));
    }

    private static int firstBroken(List<List<String>> orders, int season, int[] day, int[] ahead) {
        for (int k = 0; k < orders.size(); k++) {
            List<String> line = orders.get(k);
            boolean broken = false;
            switch (line.get(0)) {
                case "sum":
                    broken = day[0] + day[1] + day[2] > number(line, 1);
                    break;
                case "after":
                    broken = ahead != null && ahead[KINDS.indexOf(line.get(1))] >= number(line, 2)
                            && day[KINDS.indexOf(line.get(3))] > number(line, 4);
                    break;
                default:
                    int amount = day[KINDS.indexOf(line.get(1))];
                    broken = line.get(2).equals("above") ? amount > number(line, 3) : amount < number(line, 3);
                    if (line.size() == 6 && SEASONS.indexOf(line.get(5)) != season) {
                        broken = false;
                    }
                    break;
            }
            if (broken) {
                return k;
            }
        }
        return -1;
    }

    int stop(int republic, int orders, int year) {
        Republic r = republicAt(republic);
        List<List<String>> rules = linesAt(1, orders);
        List<List<String>> deeds = linesAt(2, year);
        if (r == null || rules == null || deeds == null) {
            return -1;
        }
        Run run = new Run(r);
        int k = 0;
        while (k < deeds.size() && run.deed(deeds.get(k), rules)) {
            k++;
        }
        return k;
    }

    int state(int republic, int orders, int year, int n, int what) {
        if (n < 0 || n > stop(republic, orders, year)) {
            return -2;
        }
        Run run = new Run(republicAt(republic));
        for (int k = 0; k < n; k++) {
            run.deed(linesAt(2, year).get(k), linesAt(1, orders));
        }
        int fallen = run.republic.votes(run.there) < run.republic.quota ? 1 : 0;
        int latest = run.days.isEmpty() ? -1 : number(run.days.get(run.days.size() - 1));
        int[] all = {run.days.size(), run.season, bits(run.there), bits(run.resigned), run.water[0], run.water[1],
            run.heat, run.committees, fallen, latest, run.offices[0], run.offices[1], run.offices[2]};
        if (what >= 20 && what < 20 + run.republic.size()) {
            return run.anger[what - 20];
        }
        return what >= 0 && what < all.length ? all[what] : -2;
    }

    int drawn(int republic, int seed, int n, int what) {
        Republic r = republicAt(republic);
        if (r == null || n < 0 || n > 60 || what < 0 || what > 6) {
            return -2;
        }
        Run run = new Run(r);
        long[] x = {seed & 0xffffffffL};
        for (int d = 0; d < n; d++) {
            run.season = d / 5 % 4;
            if (run.there.isEmpty()) {
                run.committee();
                continue;
            }
            int by = new ArrayList<>(run.there).get(below(x, run.there.size()));
            int[] day = {below(x, 10), below(x, 10), below(x, 10)};
            if (run.can(day)) {
                run.motion(by, day);
            } else {
                run.committee();
            }
        }
        StringBuilder dry = new StringBuilder();
        int rain = 0;
        for (int[] day : run.days) {
            rain += day[0];
            dry.append(day[0] == 0 ? 'd' : ' ');
        }
        int longest = Arrays.stream(dry.toString().split(" ")).mapToInt(String::length).max().orElse(0);
        return new int[] {run.water[0], run.water[1], run.heat, bits(run.there), run.committees, rain, longest}[what];
    }

    private static int below(long[] x, int n) {
        x[0] = (x[0] * 1103515245L + 12345L) & 0xffffffffL;
        return (int) ((x[0] >> 16) % n);
    }

    // ---- what can be agreed

    int agreed(int republic, int orders, int by, int season, int what) {
        Republic r = republicAt(republic);
        List<List<String>> rules = orders == -1 ? List.of() : linesAt(1, orders);
        if (r == null || rules == null || !r.has(by) || !good(season) || what < 0 || what > 2) {
            return -2;
        }
        List<int[]> days = new ArrayList<>();
        for (int n = 0; n < 1000; n++) {
            int[] day = day(n);
            if (new Run(r).can(day) && firstBroken(rules, season, day, null) < 0
                    && r.passes(r.all(), r.agree(by, season, day))) {
                days.add(day);
            }
        }
        if (what == 0) {
            return days.size();
        }
        if (days.isEmpty()) {
            return -1;
        }
        if (what == 1) {
            days.sort((a, b) -> a[0] != b[0] ? b[0] - a[0] : a[1] != b[1] ? a[1] - b[1] : a[2] - b[2]);
        } else {
            days.sort((a, b) -> a[2] != b[2] ? b[2] - a[2] : a[0] != b[0] ? a[0] - b[0] : a[1] - b[1]);
        }
        return number(days.get(0));
    }

    int power(int republic, int minister, boolean under) {
        Republic r = republicAt(republic);
        if (r == null || !r.has(minister)) {
            return -1;
        }
        int[] count = new int[2];
        permute(r, new ArrayList<>(), minister, count);
        return least(count[0], count[1], under);
    }

    private static void permute(Republic r, List<Integer> row, int minister, int[] count) {
        if (row.size() == r.size()) {
            count[1]++;
            int votes = 0;
            for (int m : row) {
                votes += r.ministers.get(m).votes;
                if (votes >= r.quota) {
                    count[0] += m == minister ? 1 : 0;
                    return;
                }
            }
            return;
        }
        for (int m = 0; m < r.size(); m++) {
            if (!row.contains(m)) {
                row.add(m);
                permute(r, row, minister, count);
                row.remove(row.size() - 1);
            }
        }
    }

    private static int least(int n, int d, boolean under) {
        for (int f = d; f > 1; f--) {
            if (n % f == 0 && d % f == 0) {
                return under ? d / f : n / f;
            }
        }
        return under ? d : n;
    }

    int coalition(int republic, int what) {
        Republic r = republicAt(republic);
        if (r == null) {
            return -3;
        }
        if (what == -2) {
            Set<Integer> key = new TreeSet<>();
            for (int m : r.all()) {
                Set<Integer> others = r.all();
                others.remove(m);
                if (r.votes(others) < r.quota) {
                    key.add(m);
                }
            }
            return bits(key);
        }
        List<Integer> found = new ArrayList<>();
        for (int set = 0; set < 1 << r.size(); set++) {
            boolean least = r.votes(setOf(set)) >= r.quota;
            for (int m : setOf(set)) {
                Set<Integer> others = setOf(set);
                others.remove(m);
                least &= r.votes(others) < r.quota;
            }
            if (least) {
                found.add(set);
            }
        }
        return what == -1 ? found.size() : what >= 0 && what < found.size() ? found.get(what) : -3;
    }

    int bribe(int republic, int by, int season, int rain, int wind, int sun, boolean whom) {
        Republic r = republicAt(republic);
        if (r == null || !r.has(by) || !good(season, rain, wind, sun)) {
            return -1;
        }
        int[] day = {rain, wind, sun};
        int bestCost = Integer.MAX_VALUE;
        int best = -1;
        for (int set = (1 << r.size()) - 1; set >= 0; set--) {
            Set<Integer> agree = r.agree(by, season, day);
            int cost = 0;
            boolean fair = true;
            for (int m : setOf(set)) {
                fair &= agree.add(m);
                cost += r.ministers.get(m).price * (r.off(m, season, day) - r.bound(m, by));
            }
            if (fair && r.passes(r.all(), agree) && cost <= bestCost) {
                bestCost = cost;
                best = set;
            }
        }
        return best == -1 || whom ? best : bestCost;
    }

    int lobby(int republic, int by, int season, int rain, int wind, int sun, int k) {
        Republic r = republicAt(republic);
        if (r == null || !r.has(by) || !good(season, rain, wind, sun)) {
            return -1;
        }
        int n = r.size();
        int[][] farmers = new int[n + 1][n + 1];
        int[][] bathers = new int[n + 1][n + 1];
        for (int f = 0; f <= n; f++) {
            for (int b = 0; b <= n; b++) {
                Set<Integer> agree = r.agree(by, season, new int[] {rain, wind, sun});
                if (f != b && f < n) {
                    agree.add(f);
                }
                if (f != b && b < n) {
                    agree.remove(b);
                }
                boolean passes = r.passes(r.all(), agree);
                farmers[f][b] = (passes ? 20 : 0) - (f < n ? r.ministers.get(f).price : 0);
                bathers[f][b] = (passes ? 0 : 20) - (b < n ? r.ministers.get(b).price : 0);
            }
        }
        List<Integer> rest = new ArrayList<>();
        for (int f = 0; f <= n; f++) {
            for (int b = 0; b <= n; b++) {
                boolean still = true;
                for (int other = 0; other <= n; other++) {
                    still &= farmers[other][b] <= farmers[f][b] && bathers[f][other] <= bathers[f][b];
                }
                if (still) {
                    rest.add(7 * f + b);
                }
            }
        }
        rest.sort(null);
        return k == -1 ? rest.size() : k >= 0 && k < rest.size() ? rest.get(k) : -1;
    }

    int bargain(int republic, int bargain, int what) {
        Republic r = republicAt(republic);
        List<List<String>> lines = linesAt(5, bargain);
        if (r == null || lines == null) {
            return -2;
        }
        int[] shares = new int[6];
        for (List<String> line : lines) {
            shares[number(line, 1)] = number(line, 2);
        }
        if (what >= 0 && what <= 5) {
            return shares[what];
        }
        List<Integer> leave = new ArrayList<>();
        for (int set = 0; set < 1 << r.size(); set++) {
            int sum = 0;
            for (int m : setOf(set)) {
                sum += shares[m];
            }
            if (sum < 100 && r.votes(setOf(set)) >= r.quota) {
                leave.add(set);
            }
        }
        return what == 11 ? leave.size() : what != 10 ? -2 : leave.isEmpty() ? -1 : leave.get(0);
    }

    // ---- summers, seats, leaks

    int nature(int republic, int summer, int what) {
        Republic r = republicAt(republic);
        List<List<String>> lines = linesAt(4, summer);
        if (r == null || lines == null) {
            return -2;
        }
        List<int[]> days = new ArrayList<>();
        for (List<String> line : lines) {
            days.add(new int[] {number(line, 2), number(line, 3), number(line, 4)});
        }
        if (what == 0) {
            Run run = new Run(r);
            for (int k = 0; k < days.size(); k++) {
                if (!run.can(days.get(k))) {
                    return k;
                }
                run.day(days.get(k));
            }
            return -1;
        }
        if (what != 1 && (what < 10 || what >= 10 + days.size())) {
            return -2;
        }
        for (int less = 0; less <= 72; less++) {
            int[] left = new int[days.size()];
            if (mend(days, 0, less, new int[] {r.cloud, r.ground, r.heat}, left, new HashSet<>())) {
                return what == 1 ? less : left[what - 10];
            }
        }
        return what == 1 ? -1 : -2;
    }

    private static boolean mend(List<int[]> days, int k, int less, int[] sky, int[] left, Set<Integer> hopeless) {
        if (k == days.size()) {
            return less == 0;
        }
        int mark = (k * 100 + less) * 200 + sky[0];
        if (hopeless.contains(mark)) {
            return false;
        }
        int[] day = days.get(k);
        for (int rain = day[0]; rain >= 0 && day[0] - rain <= less; rain--) {
            int heat = sky[2] + day[2] - day[1];
            if (rain <= sky[0] && heat >= 0 && heat <= 99) {
                int up = Math.min(day[2], sky[1] + rain);
                left[k] = rain;
                int[] next = {sky[0] - rain + up, sky[1] + rain - up, heat};
                if (mend(days, k + 1, less - (day[0] - rain), next, left, hopeless)) {
                    return true;
                }
            }
        }
        hopeless.add(mark);
        return false;
    }

    private static int[] proposal(Republic r, int[] seats, int season) {
        int[] proposal = new int[3];
        for (int k = 0; k < 3; k++) {
            proposal[k] = r.ministers.get(seats[k]).wants[season][k];
        }
        return proposal;
    }

    private static List<int[]> allSeats(Republic r) {
        List<int[]> seats = new ArrayList<>();
        for (int a : r.all()) {
            for (int b : r.all()) {
                for (int c : r.all()) {
                    if (Set.copyOf(List.of(a, b, c)).size() == 3) {
                        seats.add(new int[] {a, b, c});
                    }
                }
            }
        }
        return seats;
    }

    private static int seatsNumber(int[] seats) {
        return 36 * seats[0] + 6 * seats[1] + seats[2];
    }

    int seats(int republic, int summer, int what) {
        Republic r = republicAt(republic);
        List<List<String>> lines = linesAt(4, summer);
        if (r == null || lines == null) {
            return -4;
        }
        List<int[]> fit = allSeats(r);
        for (List<String> line : lines) {
            int was = number(line, 2) * 100 + number(line, 3) * 10 + number(line, 4);
            fit.removeIf(s -> number(proposal(r, s, SEASONS.indexOf(line.get(1)))) != was);
        }
        int most = 0;
        int tells = -1;
        for (int season = 0; season < 4; season++) {
            Set<Integer> proposals = new HashSet<>();
            for (int[] s : fit) {
                proposals.add(number(proposal(r, s, season)));
            }
            if (proposals.size() > most) {
                most = proposals.size();
                tells = season;
            }
        }
        if (what >= 0) {
            return what < fit.size() ? seatsNumber(fit.get(what)) : -4;
        }
        return what == -1 ? fit.size() : what == -2 ? tells : what == -3 ? most : -4;
    }

    int reshuffle(int republic, boolean many) {
        Republic r = republicAt(republic);
        if (r == null || r.size() < 3) {
            return -1;
        }
        int most = -1;
        int best = -1;
        for (int[] seats : allSeats(r)) {
            int wet = 0;
            for (int season = 0; season < 4; season++) {
                int[] day = proposal(r, seats, season);
                wet += day[0] != 0 && r.passes(r.all(), r.agree(seats[0], season, day)) ? 1 : 0;
            }
            if (wet > most) {
                most = wet;
                best = seatsNumber(seats);
            }
        }
        return many ? most : best;
    }

    int fits(int republic, int leaks, int by, int season, int what) {
        Republic r = republicAt(republic);
        List<List<String>> lines = linesAt(3, leaks);
        if (r == null || lines == null || !r.has(by) || !good(season)) {
            return -2;
        }
        for (List<String> line : lines) {
            if (!r.has(number(line, 1))) {
                return -2;
            }
        }
        List<int[]> days = fitting(r, lines, by, season);
        if (what == 0) {
            return days.size();
        }
        if (what == 3) {
            int lies = 0;
            for (int k = 0; k < lines.size() && days.isEmpty(); k++) {
                List<List<String>> others = new ArrayList<>(lines);
                others.remove(k);
                lies |= fitting(r, others, by, season).isEmpty() ? 0 : 1 << k;
            }
            return lies;
        }
        int kind = what % 10;
        if (what == 1 || what == 2) {
            int wet = (int) days.stream().filter(d -> d[0] > 0).count();
            return days.isEmpty() ? -1 : least(wet, days.size(), what == 2);
        }
        if (kind > 2 || what < 10 || what > 22) {
            return -2;
        }
        return what < 20 ? days.stream().mapToInt(d -> d[kind]).min().orElse(-1)
                : days.stream().mapToInt(d -> d[kind]).max().orElse(-1);
    }

    private static List<int[]> fitting(Republic r, List<List<String>> leaks, int by, int season) {
        List<int[]> days = new ArrayList<>();
        for (int n = 0; n < 1000; n++) {
            Set<Integer> agree = r.agree(by, season, day(n));
            boolean fits = true;
            for (List<String> line : leaks) {
                fits &= agree.contains(number(line, 1)) == line.get(2).equals("yes");
            }
            if (fits) {
                days.add(day(n));
            }
        }
        return days;
    }
}

import java.util.Arrays;

/** Ministers who agree on the weather, their orders, years, leaks, summers and bargains, all told as texts. */
public final class WindCabinet {
    public static final int NONE = -1;

    // Where NONE tells something itself, the document lets a lower number say that there is none such.
    private static final int ABSENT = -2;
    private static final int ABSENT_COALITION = -3;
    private static final int ABSENT_SEATS = -4;

    private static final int REPUBLICS = 0;
    private static final int ORDERS = 1;
    private static final int YEARS = 2;
    private static final int LEAKS = 3;
    private static final int SUMMERS = 4;
    private static final int BARGAINS = 5;
    private static final int SORTS = 6;
    private static final int OF_A_SORT = 2;

    private static final int TAPE = 600;
    private static final int FED = 20;
    private static final int IMAGES = 3;

    private static final int MINISTERS = 6;
    private static final int SEASONS = 4;
    private static final int KINDS = 3;
    private static final int RAIN = 0;
    private static final int WIND = 1;
    private static final int SUN = 2;
    private static final int AMOUNTS = 10;
    private static final int ALL_DAYS = 1000;
    private static final int HOTTEST = 99;
    private static final int LONGEST_DECADE = 60;

    private static final int NO_ABOVE = 0;
    private static final int NO_BELOW = 1;
    private static final int SUM = 2;
    private static final int AFTER = 3;

    private static final int MOVE = 0;
    private static final int TO_SEASON = 1;
    private static final int TO_OFFICE = 2;
    private static final int DISMISS = 3;
    private static final int RECALL = 4;
    private static final int PASS = 5;

    private static final int ROWS = 40;
    private static final int COLUMNS = 5;
    private static final int PARTS = 5;
    private static final int[] MOST_OF_A_TEXT = {MINISTERS, 8, ROWS, 8, 8, TAPE};

    private static final int LOBBY_BASE = 7;
    private static final int PRIZE = 20;
    private static final int WHOLE_SHARE = 100;
    private static final int ALL_SEATS = 216;
    private static final int[] FACTORIALS = {1, 1, 2, 6, 24, 120, 720};

    private final Told told = new Told();
    private final Told[] images = new Told[IMAGES];
    private final Reader reader = new Reader();
    private final Course course = new Course();
    private final Sky sky = new Sky();
    private final int[] rainLeft = new int[ROWS];
    private final int[] fitting = new int[ALL_SEATS];
    private final int[] seen = new int[ALL_DAYS];

    public WindCabinet() {
    }

    // ---- the tape and the texts

    public int feed(int a, int b, int c, int d, int e) {
        if (told.length + FED > TAPE) {
            return NONE;
        }
        feedNumber(a);
        feedNumber(b);
        feedNumber(c);
        feedNumber(d);
        feedNumber(e);
        return told.length;
    }

    private void feedNumber(int number) {
        for (int shift = 24; shift >= 0; shift -= 8) {
            put(told.tape, told.length, number >>> shift & 255);
            told.length++;
        }
    }

    public int end(int n) {
        if (n < 0 || n > told.length) {
            return NONE;
        }
        told.length = n;
        return n;
    }

    public int text(int sort, int at) {
        int place = placeFor(sort, at);
        int taken = told.length;
        told.length = 0;
        told.fault = 0;
        told.place = NONE;
        if (place == NONE) {
            return ABSENT;
        }
        reader.read(told.tape, taken, sort);
        told.fault = reader.fault;
        told.place = reader.place;
        if (reader.fault != 0) {
            return NONE;
        }
        keep(sort, place);
        return place;
    }

    private int placeFor(int sort, int at) {
        if (sort < 0 || sort >= SORTS) {
            return NONE;
        }
        int many = cell(told.counts, sort);
        if (at == NONE) {
            return many < OF_A_SORT ? many : NONE;
        }
        return at >= 0 && at < many ? at : NONE;
    }

    private void keep(int sort, int place) {
        if (sort == REPUBLICS) {
            Republic kept = told.republicKept(place);
            if (kept != null) {
                kept.copyRepublic(reader.republic);
            }
        } else {
            Rows kept = told.rowsKept(sort, place);
            if (kept != null) {
                kept.copyRows(reader.rows);
            }
        }
        put(told.counts, sort, Math.max(cell(told.counts, sort), place + 1));
    }

    public int fault(int what) {
        if (what == 0) {
            return told.fault;
        }
        return what == 1 ? told.place : NONE;
    }

    public int count(int sort) {
        return sort >= 0 && sort < SORTS ? cell(told.counts, sort) : ABSENT;
    }

    public boolean image(int k) {
        if (k < 0 || k >= images.length) {
            return false;
        }
        Told image = images[k] == null ? new Told() : images[k];
        image.copyTold(told);
        images[k] = image;
        return true;
    }

    public boolean again(int k) {
        if (k < 0 || k >= images.length || images[k] == null) {
            return false;
        }
        told.copyTold(images[k]);
        return true;
    }

    // ---- what is told

    private Republic republicAt(int at) {
        return at >= 0 && at < cell(told.counts, REPUBLICS) ? told.republicKept(at) : null;
    }

    private Rows rowsAt(int sort, int at) {
        return at >= 0 && at < cell(told.counts, sort) ? told.rowsKept(sort, at) : null;
    }

    public int republic(int republic, int what) {
        Republic r = republicAt(republic);
        if (r == null) {
            return NONE;
        }
        switch (what) {
            case 0:
                return r.size;
            case 1:
                return r.quota;
            case 2:
                return r.spite;
            case 3:
                return r.cloud;
            case 4:
                return r.ground;
            case 5:
                return r.heat;
            case 10:
            case 11:
            case 12:
                return cell(r.offices, what - 10);
            default:
                return NONE;
        }
    }

    public int minister(int republic, int minister, int what) {
        Republic r = republicAt(republic);
        if (r == null || !r.isMinister(minister)) {
            return NONE;
        }
        switch (what) {
            case 0:
                return cell(r.votes, minister);
            case 1:
                return cell(r.yields, minister);
            case 2:
                return cell(r.tempers, minister);
            case 3:
                return cell(r.prices, minister);
            case 4:
                return has(r.vetoes, minister) ? 1 : 0;
            case 5:
                return cell(r.feuds, minister);
            default:
                return what >= 10 && what < 10 + SEASONS * KINDS ? r.want(minister, what - 10) : NONE;
        }
    }

    public int order(int orders, int k, int what) {
        return rowTold(rowsAt(ORDERS, orders), k, what, COLUMNS);
    }

    public int deed(int year, int k, int what) {
        return rowTold(rowsAt(YEARS, year), k, what, COLUMNS);
    }

    public int leak(int leaks, int k, int what) {
        return rowTold(rowsAt(LEAKS, leaks), k, what, 2);
    }

    public int was(int summer, int k, int what) {
        return rowTold(rowsAt(SUMMERS, summer), k, what, 4);
    }

    private static int rowTold(Rows rows, int k, int what, int columns) {
        if (rows == null || what < 0 || what >= columns) {
            return ABSENT;
        }
        if (k == NONE) {
            return what == 0 ? rows.size : ABSENT;
        }
        return k >= 0 && k < rows.size ? rows.part(k, what) : ABSENT;
    }

    // ---- motions

    /** The republic in which that motion can be moved; null if any of its numbers can't be. */
    private Republic movedIn(int republic, int by, int season, int day) {
        Republic r = republicAt(republic);
        return r != null && r.isMinister(by) && isSeason(season) && day != NONE ? r : null;
    }

    public int off(int republic, int minister, int season, int rain, int wind, int sun) {
        int day = dayOf(rain, wind, sun);
        Republic r = movedIn(republic, minister, season, day);
        return r == null ? NONE : r.distance(minister, season, day);
    }

    public int vote(int republic, int by, int season, int rain, int wind, int sun, boolean passes) {
        int day = dayOf(rain, wind, sun);
        Republic r = movedIn(republic, by, season, day);
        if (r == null) {
            return NONE;
        }
        int agree = r.agreeing(by, season, day);
        if (!passes) {
            return agree;
        }
        return r.isPassed(r.everybody(), agree) ? 1 : 0;
    }

    public int broken(int orders, int season, int rain, int wind, int sun, int ahead) {
        Rows rows = rowsAt(ORDERS, orders);
        int day = dayOf(rain, wind, sun);
        if (rows == null || !isSeason(season) || day == NONE || ahead < NONE || ahead >= ALL_DAYS) {
            return NONE;
        }
        return firstBroken(rows, season, day, ahead);
    }

    /** Null stands for no orders at all. */
    private static int firstBroken(Rows orders, int season, int day, int ahead) {
        if (orders == null) {
            return NONE;
        }
        for (int k = 0; k < orders.size; k++) {
            if (isBroken(orders, k, season, day, ahead)) {
                return k;
            }
        }
        return NONE;
    }

    private static boolean isBroken(Rows orders, int k, int season, int day, int ahead) {
        int first = orders.part(k, 1);
        int second = orders.part(k, 2);
        int third = orders.part(k, 3);
        boolean inSeason = third == NONE || third == season;
        switch (orders.part(k, 0)) {
            case NO_ABOVE:
                return inSeason && amount(day, first) > second;
            case NO_BELOW:
                return inSeason && amount(day, first) < second;
            case SUM:
                return amount(day, RAIN) + amount(day, WIND) + amount(day, SUN) > first;
            case AFTER:
                return ahead != NONE && amount(ahead, first) >= second && amount(day, third) > orders.part(k, 4);
            default:
                return false;
        }
    }

    // ---- years

    public int stop(int republic, int orders, int year) {
        Republic r = republicAt(republic);
        Rows rules = rowsAt(ORDERS, orders);
        Rows deeds = rowsAt(YEARS, year);
        if (r == null || rules == null || deeds == null) {
            return NONE;
        }
        return course.run(r, rules, deeds, deeds.size);
    }

    public int state(int republic, int orders, int year, int n, int what) {
        Republic r = republicAt(republic);
        Rows rules = rowsAt(ORDERS, orders);
        Rows deeds = rowsAt(YEARS, year);
        if (r == null || rules == null || deeds == null || n < 0 || n > deeds.size) {
            return ABSENT;
        }
        return course.run(r, rules, deeds, n) == n ? stateTold(r, what) : ABSENT;
    }

    private int stateTold(Republic r, int what) {
        switch (what) {
            case 0:
                return course.days;
            case 1:
                return course.season;
            case 2:
                return course.there;
            case 3:
                return course.resigned;
            case 4:
                return course.sky.cloud;
            case 5:
                return course.sky.ground;
            case 6:
                return course.sky.heat;
            case 7:
                return course.committees;
            case 8:
                return r.votesOf(course.there) < r.quota ? 1 : 0;
            case 9:
                return course.latest;
            case 10:
            case 11:
            case 12:
                return cell(course.offices, what - 10);
            default:
                return what >= 20 && r.isMinister(what - 20) ? cell(course.anger, what - 20) : ABSENT;
        }
    }

    public int drawn(int republic, int seed, int n, int what) {
        Republic r = republicAt(republic);
        if (r == null || n < 0 || n > LONGEST_DECADE) {
            return ABSENT;
        }
        course.draw(r, seed, n);
        switch (what) {
            case 0:
                return course.sky.cloud;
            case 1:
                return course.sky.ground;
            case 2:
                return course.sky.heat;
            case 3:
                return course.there;
            case 4:
                return course.committees;
            case 5:
                return course.rain;
            case 6:
                return course.longestDry;
            default:
                return ABSENT;
        }
    }

    // ---- what can be agreed, and by whose power

    public int agreed(int republic, int orders, int by, int season, int what) {
        Republic r = movedIn(republic, by, season, 0);
        Rows rules = rowsAt(ORDERS, orders);
        if (r == null || rules == null && orders != NONE) {
            return ABSENT;
        }
        switch (what) {
            case 0:
                return manyAgreed(r, rules, by, season);
            case 1:
                return bestAgreed(r, rules, by, season, true);
            case 2:
                return bestAgreed(r, rules, by, season, false);
            default:
                return ABSENT;
        }
    }

    private boolean isAgreed(Republic r, Rows rules, int by, int season, int day) {
        sky.settle(r);
        return sky.can(day) && firstBroken(rules, season, day, NONE) == NONE
                && r.isPassed(r.everybody(), r.agreeing(by, season, day));
    }

    private int manyAgreed(Republic r, Rows rules, int by, int season) {
        int many = 0;
        for (int day = 0; day < ALL_DAYS; day++) {
            if (isAgreed(r, rules, by, season, day)) {
                many++;
            }
        }
        return many;
    }

    private int bestAgreed(Republic r, Rows rules, int by, int season, boolean wettest) {
        int best = NONE;
        for (int day = 0; day < ALL_DAYS; day++) {
            boolean better = best == NONE || rank(day, wettest) > rank(best, wettest);
            if (better && isAgreed(r, rules, by, season, day)) {
                best = day;
            }
        }
        return best;
    }

    /** No two days have the same rank, so the best one is never a matter of which was looked at first. */
    private static int rank(int day, boolean wettest) {
        int rain = amount(day, RAIN);
        int lull = AMOUNTS - 1 - amount(day, WIND);
        int sun = amount(day, SUN);
        if (wettest) {
            return numberOf(rain, lull, AMOUNTS - 1 - sun);
        }
        return numberOf(sun, AMOUNTS - 1 - rain, lull);
    }

    public int power(int republic, int minister, boolean under) {
        Republic r = republicAt(republic);
        if (r == null || !r.isMinister(minister)) {
            return NONE;
        }
        return fraction(rowsDecided(r, minister), cell(FACTORIALS, r.size), under);
    }

    /** Rows are counted by the set that stands ahead of the minister, as its order does not matter. */
    private static int rowsDecided(Republic r, int minister) {
        int rows = 0;
        for (int ahead = 0; ahead <= r.everybody(); ahead++) {
            boolean decides = !has(ahead, minister) && r.votesOf(ahead) < r.quota
                    && r.votesOf(ahead | 1 << minister) >= r.quota;
            if (decides) {
                int before = Integer.bitCount(ahead);
                rows += cell(FACTORIALS, before) * cell(FACTORIALS, r.size - before - 1);
            }
        }
        return rows;
    }

    public int coalition(int republic, int what) {
        Republic r = republicAt(republic);
        if (r == null || what < ABSENT) {
            return ABSENT_COALITION;
        }
        return what == -2 ? keyMinisters(r) : leastCoalition(r, what);
    }

    private static int keyMinisters(Republic r) {
        int key = 0;
        for (int m = 0; m < r.size; m++) {
            if (r.votesOf(r.everybody() & ~(1 << m)) < r.quota) {
                key |= 1 << m;
            }
        }
        return key;
    }

    /** How many there are for k NONE, else the k-th. */
    private static int leastCoalition(Republic r, int k) {
        int many = 0;
        for (int set = 0; set <= r.everybody(); set++) {
            if (isLeastCoalition(r, set)) {
                if (many == k) {
                    return set;
                }
                many++;
            }
        }
        return k == NONE ? many : ABSENT_COALITION;
    }

    private static boolean isLeastCoalition(Republic r, int set) {
        if (r.votesOf(set) < r.quota) {
            return false;
        }
        for (int m = 0; m < r.size; m++) {
            if (has(set, m) && r.votesOf(set & ~(1 << m)) >= r.quota) {
                return false;
            }
        }
        return true;
    }

    // ---- bribes, lobbies, bargains

    public int bribe(int republic, int by, int season, int rain, int wind, int sun, boolean whom) {
        int day = dayOf(rain, wind, sun);
        Republic r = movedIn(republic, by, season, day);
        if (r == null) {
            return NONE;
        }
        int agree = r.agreeing(by, season, day);
        int leastCost = NONE;
        int leastSet = NONE;
        for (int set = 0; set <= r.everybody(); set++) {
            if ((set & agree) == 0 && r.isPassed(r.everybody(), agree | set)) {
                int cost = bribeOf(r, set, by, season, day);
                if (leastCost == NONE || cost < leastCost) {
                    leastCost = cost;
                    leastSet = set;
                }
            }
        }
        return whom ? leastSet : leastCost;
    }

    private static int bribeOf(Republic r, int set, int by, int season, int day) {
        int cost = 0;
        for (int m = 0; m < r.size; m++) {
            if (has(set, m)) {
                cost += cell(r.prices, m) * (r.distance(m, season, day) - r.patience(m, by));
            }
        }
        return cost;
    }

    public int lobby(int republic, int by, int season, int rain, int wind, int sun, int k) {
        int day = dayOf(rain, wind, sun);
        Republic r = movedIn(republic, by, season, day);
        if (r == null) {
            return NONE;
        }
        int agree = r.agreeing(by, season, day);
        int many = 0;
        for (int farmers = 0; farmers <= r.size; farmers++) {
            for (int bathers = 0; bathers <= r.size; bathers++) {
                if (isRest(r, agree, farmers, bathers)) {
                    if (many == k) {
                        return LOBBY_BASE * farmers + bathers;
                    }
                    many++;
                }
            }
        }
        return k == NONE ? many : NONE;
    }

    private static boolean isRest(Republic r, int agree, int farmers, int bathers) {
        int farmersGain = gain(r, agree, farmers, bathers, true);
        int bathersGain = gain(r, agree, farmers, bathers, false);
        for (int other = 0; other <= r.size; other++) {
            if (gain(r, agree, other, bathers, true) > farmersGain
                    || gain(r, agree, farmers, other, false) > bathersGain) {
                return false;
            }
        }
        return true;
    }

    private static int gain(Republic r, int agree, int farmers, int bathers, boolean ofFarmers) {
        boolean passed = r.isPassed(r.everybody(), boughtBy(r, agree, farmers, bathers));
        int bought = ofFarmers ? farmers : bathers;
        int price = r.isMinister(bought) ? cell(r.prices, bought) : 0;
        return (passed == ofFarmers ? PRIZE : 0) - price;
    }

    private static int boughtBy(Republic r, int agree, int farmers, int bathers) {
        if (farmers == bathers) {
            return agree;
        }
        int pushed = r.isMinister(farmers) ? 1 << farmers : 0;
        int held = r.isMinister(bathers) ? 1 << bathers : 0;
        return (agree | pushed) & ~held;
    }

    public int bargain(int republic, int bargain, int what) {
        Republic r = republicAt(republic);
        Rows shares = rowsAt(BARGAINS, bargain);
        if (r == null || shares == null) {
            return ABSENT;
        }
        if (what >= 0 && what < MINISTERS) {
            return shares.part(what, 0);
        }
        switch (what) {
            case 10:
                return leavers(r, shares, false);
            case 11:
                return leavers(r, shares, true);
            default:
                return ABSENT;
        }
    }

    private static int leavers(Republic r, Rows shares, boolean howMany) {
        int many = 0;
        for (int set = 0; set <= r.everybody(); set++) {
            if (r.votesOf(set) >= r.quota && sharesOf(r, shares, set) < WHOLE_SHARE) {
                if (!howMany) {
                    return set;
                }
                many++;
            }
        }
        return howMany ? many : NONE;
    }

    private static int sharesOf(Republic r, Rows shares, int set) {
        int sum = 0;
        for (int m = 0; m < r.size; m++) {
            if (has(set, m)) {
                sum += shares.part(m, 0);
            }
        }
        return sum;
    }

    // ---- summers and seats

    public int nature(int republic, int summer, int what) {
        Republic r = republicAt(republic);
        Rows days = rowsAt(SUMMERS, summer);
        if (r == null || days == null) {
            return ABSENT;
        }
        if (what == 0) {
            return firstWrong(r, days);
        }
        int mended = mend(r, days);
        if (what == 1) {
            return mended;
        }
        boolean isDay = what >= 10 && what - 10 < days.size;
        return isDay && mended != NONE ? cell(rainLeft, what - 10) : ABSENT;
    }

    private int firstWrong(Republic r, Rows days) {
        sky.settle(r);
        for (int k = 0; k < days.size; k++) {
            int day = days.dayFrom(k, 1);
            if (!sky.can(day)) {
                return k;
            }
            sky.bring(day);
        }
        return NONE;
    }

    /**
     * A unit of rain kept back today spares the later days one unit at most, since cloud and ground
     * together never change: so each day keeps all the rain that the cloud has.
     */
    private int mend(Republic r, Rows days) {
        int less = 0;
        sky.settle(r);
        for (int k = 0; k < days.size; k++) {
            int day = days.dayFrom(k, 1);
            int rain = Math.min(amount(day, RAIN), sky.cloud);
            int mended = numberOf(rain, amount(day, WIND), amount(day, SUN));
            if (!sky.can(mended)) {
                return NONE;
            }
            sky.bring(mended);
            put(rainLeft, k, rain);
            less += amount(day, RAIN) - rain;
        }
        return less;
    }

    public int seats(int republic, int summer, int what) {
        Republic r = republicAt(republic);
        Rows days = rowsAt(SUMMERS, summer);
        if (r == null || days == null) {
            return ABSENT_SEATS;
        }
        int many = findFitting(r, days);
        if (what >= 0) {
            return what < many ? cell(fitting, what) : ABSENT_SEATS;
        }
        switch (what) {
            case NONE:
                return many;
            case -2:
                return many == 0 ? NONE : tellingSeason(r, many);
            case -3:
                return unlikeProposals(r, tellingSeason(r, many), many);
            default:
                return ABSENT_SEATS;
        }
    }

    private int findFitting(Republic r, Rows days) {
        int many = 0;
        for (int seats = 0; seats < ALL_SEATS; seats++) {
            if (r.areSeats(seats) && isFit(r, days, seats)) {
                put(fitting, many, seats);
                many++;
            }
        }
        return many;
    }

    private static boolean isFit(Republic r, Rows days, int seats) {
        for (int k = 0; k < days.size; k++) {
            if (r.proposal(seats, days.part(k, 0)) != days.dayFrom(k, 1)) {
                return false;
            }
        }
        return true;
    }

    private int tellingSeason(Republic r, int many) {
        int telling = 0;
        for (int season = 1; season < SEASONS; season++) {
            if (unlikeProposals(r, season, many) > unlikeProposals(r, telling, many)) {
                telling = season;
            }
        }
        return telling;
    }

    private int unlikeProposals(Republic r, int season, int many) {
        int unlike = 0;
        Arrays.fill(seen, 0);
        for (int k = 0; k < many; k++) {
            int day = r.proposal(cell(fitting, k), season);
            if (cell(seen, day) == 0) {
                put(seen, day, 1);
                unlike++;
            }
        }
        return unlike;
    }

    public int reshuffle(int republic, boolean many) {
        Republic r = republicAt(republic);
        if (r == null) {
            return NONE;
        }
        int best = NONE;
        int most = NONE;
        for (int seats = 0; seats < ALL_SEATS; seats++) {
            if (r.areSeats(seats)) {
                int wet = wetSeasons(r, seats);
                if (wet > most) {
                    most = wet;
                    best = seats;
                }
            }
        }
        return many ? most : best;
    }

    private static int wetSeasons(Republic r, int seats) {
        int by = seats / 36;
        int many = 0;
        for (int season = 0; season < SEASONS; season++) {
            int day = r.proposal(seats, season);
            if (amount(day, RAIN) > 0 && r.isPassed(r.everybody(), r.agreeing(by, season, day))) {
                many++;
            }
        }
        return many;
    }

    // ---- leaks

    public int fits(int republic, int leaks, int by, int season, int what) {
        Republic r = movedIn(republic, by, season, 0);
        Rows said = rowsAt(LEAKS, leaks);
        if (r == null || said == null || !areThere(r, said)) {
            return ABSENT;
        }
        switch (what) {
            case 0:
                return manyFitting(r, said, by, season, false);
            case 1:
            case 2:
                return likelyRain(r, said, by, season, what == 2);
            case 3:
                return lies(r, said, by, season);
            case 10:
            case 11:
            case 12:
                return extreme(r, said, by, season, what - 10, false);
            case 20:
            case 21:
            case 22:
                return extreme(r, said, by, season, what - 20, true);
            default:
                return ABSENT;
        }
    }

    private static boolean areThere(Republic r, Rows said) {
        for (int k = 0; k < said.size; k++) {
            if (!r.isMinister(said.part(k, 0))) {
                return false;
            }
        }
        return true;
    }

    /** The leaks (bits) that a day does not fit. */
    private static int unfit(Republic r, Rows said, int by, int season, int day) {
        int agree = r.agreeing(by, season, day);
        int wrong = 0;
        for (int k = 0; k < said.size; k++) {
            if (has(agree, said.part(k, 0)) != (said.part(k, 1) == 1)) {
                wrong |= 1 << k;
            }
        }
        return wrong;
    }

    private static int manyFitting(Republic r, Rows said, int by, int season, boolean wet) {
        int many = 0;
        for (int day = 0; day < ALL_DAYS; day++) {
            if (unfit(r, said, by, season, day) == 0 && (!wet || amount(day, RAIN) > 0)) {
                many++;
            }
        }
        return many;
    }

    private static int likelyRain(Republic r, Rows said, int by, int season, boolean under) {
        int many = manyFitting(r, said, by, season, false);
        return many == 0 ? NONE : fraction(manyFitting(r, said, by, season, true), many, under);
    }

    private static int extreme(Republic r, Rows said, int by, int season, int kind, boolean most) {
        int found = NONE;
        for (int day = 0; day < ALL_DAYS; day++) {
            if (unfit(r, said, by, season, day) == 0) {
                int much = amount(day, kind);
                if (found == NONE || (most ? much > found : much < found)) {
                    found = much;
                }
            }
        }
        return found;
    }

    private static int lies(Republic r, Rows said, int by, int season) {
        int lies = 0;
        for (int day = 0; day < ALL_DAYS; day++) {
            int wrong = unfit(r, said, by, season, day);
            if (wrong == 0) {
                return 0;
            }
            if (Integer.bitCount(wrong) == 1) {
                lies |= wrong;
            }
        }
        return lies;
    }

    // ---- numbers and rows

    private static boolean isSeason(int season) {
        return season >= 0 && season < SEASONS;
    }

    private static boolean isAmount(int amount) {
        return amount >= 0 && amount < AMOUNTS;
    }

    private static int dayOf(int rain, int wind, int sun) {
        return isAmount(rain) && isAmount(wind) && isAmount(sun) ? numberOf(rain, wind, sun) : NONE;
    }

    private static int numberOf(int first, int second, int third) {
        return (first * AMOUNTS + second) * AMOUNTS + third;
    }

    private static int amount(int day, int kind) {
        if (kind == RAIN) {
            return day / (AMOUNTS * AMOUNTS);
        }
        return kind == WIND ? day / AMOUNTS % AMOUNTS : day % AMOUNTS;
    }

    private static boolean has(int bits, int k) {
        return k >= 0 && k < MINISTERS && (bits >> k & 1) == 1;
    }

    private static int cell(int[] row, int i) {
        return i >= 0 && i < row.length ? row[i] : 0;
    }

    private static void put(int[] row, int i, int value) {
        if (i >= 0 && i < row.length) {
            row[i] = value;
        }
    }

    private static void copy(int[] from, int[] to) {
        System.arraycopy(from, 0, to, 0, Math.min(from.length, to.length));
    }

    private static int fraction(int part, int whole, boolean under) {
        int divisor = commonDivisor(part, whole);
        if (divisor == 0) {
            return NONE;
        }
        return (under ? whole : part) / divisor;
    }

    private static int commonDivisor(int a, int b) {
        int larger = a;
        int smaller = b;
        // Numbers of 32 bits take fewer than 64 divisions.
        for (int i = 0; i < 64 && smaller != 0; i++) {
            int rest = larger % smaller;
            larger = smaller;
            smaller = rest;
        }
        return larger;
    }

    /** Ministers and what they want, as told. */
    private static final class Republic {
        int size;
        final int[] votes = new int[MINISTERS];
        final int[] yields = new int[MINISTERS];
        final int[] tempers = new int[MINISTERS];
        final int[] prices = new int[MINISTERS];
        final int[] wants = new int[MINISTERS * SEASONS * KINDS];
        final int[] feuds = new int[MINISTERS];
        final int[] offices = new int[KINDS];
        int vetoes;
        int quota;
        int spite;
        int cloud;
        int ground;
        int heat;

        void clear() {
            size = 0;
            Arrays.fill(wants, 0);
            Arrays.fill(feuds, 0);
            Arrays.fill(offices, 0);
            vetoes = 0;
            quota = 10;
            spite = 2;
            cloud = 50;
            ground = 50;
            heat = 20;
        }

        void copyRepublic(Republic other) {
            size = other.size;
            copy(other.votes, votes);
            copy(other.yields, yields);
            copy(other.tempers, tempers);
            copy(other.prices, prices);
            copy(other.wants, wants);
            copy(other.feuds, feuds);
            copy(other.offices, offices);
            vetoes = other.vetoes;
            quota = other.quota;
            spite = other.spite;
            cloud = other.cloud;
            ground = other.ground;
            heat = other.heat;
        }

        /** Lines by their place among the words of a republic's text. */
        void takeLine(int line, int[] parts) {
            int first = cell(parts, 0);
            int second = cell(parts, 1);
            switch (line) {
                case 0:
                    addMinister(parts);
                    break;
                case 1:
                    for (int kind = 0; kind < KINDS; kind++) {
                        put(wants, (first * SEASONS + second) * KINDS + kind, cell(parts, 2 + kind));
                    }
                    break;
                case 2:
                    vetoes |= 1 << first;
                    break;
                case 3:
                    put(feuds, first, cell(feuds, first) | 1 << second);
                    put(feuds, second, cell(feuds, second) | 1 << first);
                    break;
                case 4:
                    put(offices, first, second);
                    break;
                default:
                    setNumber(line, first);
                    break;
            }
        }

        private void addMinister(int[] parts) {
            if (size < MINISTERS) {
                put(votes, size, cell(parts, 0));
                put(yields, size, cell(parts, 1));
                put(tempers, size, cell(parts, 2));
                put(prices, size, cell(parts, 3));
                size++;
            }
        }

        private void setNumber(int line, int number) {
            switch (line) {
                case 5:
                    quota = number;
                    break;
                case 6:
                    spite = number;
                    break;
                case 7:
                    cloud = number;
                    break;
                case 8:
                    ground = number;
                    break;
                case 9:
                    heat = number;
                    break;
                default:
                    break;
            }
        }

        boolean isMinister(int minister) {
            return minister >= 0 && minister < size;
        }

        int everybody() {
            return (1 << size) - 1;
        }

        /** The place is 3 * season + kind. */
        int want(int minister, int place) {
            return cell(wants, minister * SEASONS * KINDS + place);
        }

        int distance(int minister, int season, int day) {
            int place = (minister * SEASONS + season) * KINDS;
            int sum = 0;
            for (int kind = 0; kind < KINDS; kind++) {
                sum += Math.abs(amount(day, kind) - cell(wants, place + kind));
            }
            return sum;
        }

        /** Below 0 for a minister who is more spiteful than yielding. */
        int patience(int minister, int by) {
            return cell(yields, minister) - (has(cell(feuds, minister), by) ? spite : 0);
        }

        int agreeing(int by, int season, int day) {
            int agree = 0;
            for (int m = 0; m < size; m++) {
                if (m == by || distance(m, season, day) <= patience(m, by)) {
                    agree |= 1 << m;
                }
            }
            return agree;
        }

        int votesOf(int set) {
            int sum = 0;
            for (int m = 0; m < size; m++) {
                if (has(set, m)) {
                    sum += cell(votes, m);
                }
            }
            return sum;
        }

        boolean isPassed(int there, int agree) {
            return votesOf(there & agree) >= quota && (there & vetoes & ~agree) == 0;
        }

        boolean areSeats(int seats) {
            int first = seats / 36;
            int second = seats / 6 % 6;
            int third = seats % 6;
            return isMinister(first) && isMinister(second) && isMinister(third)
                    && first != second && second != third && first != third;
        }

        int proposal(int seats, int season) {
            int place = season * KINDS;
            return numberOf(want(seats / 36, place + RAIN), want(seats / 6 % 6, place + WIND),
                    want(seats % 6, place + SUN));
        }
    }

    /** Rows of numbers, one for each order, deed, leak, day, or minister who has a share. */
    private static final class Rows {
        int size;
        private final int[] parts = new int[ROWS * COLUMNS];

        void clear() {
            size = 0;
            Arrays.fill(parts, 0);
        }

        void copyRows(Rows other) {
            size = other.size;
            copy(other.parts, parts);
        }

        int part(int row, int column) {
            return cell(parts, row * COLUMNS + column);
        }

        void set(int row, int column, int number) {
            put(parts, row * COLUMNS + column, number);
        }

        int dayFrom(int row, int column) {
            return numberOf(part(row, column), part(row, column + 1), part(row, column + 2));
        }

        void add(int first, int[] numbers, int from) {
            if (size < ROWS) {
                set(size, 0, first);
                for (int i = 1; i < COLUMNS; i++) {
                    set(size, i, cell(numbers, from + i - 1));
                }
                size++;
            }
        }
    }

    /** All that is told: what an image keeps. */
    private static final class Told {
        final int[] tape = new int[TAPE];
        int length;
        int fault;
        int place = NONE;
        final int[] counts = new int[SORTS];
        private final Republic[] republics = new Republic[OF_A_SORT];
        private final Rows[] rows = new Rows[(SORTS - ORDERS) * OF_A_SORT];

        Told() {
            for (int i = 0; i < republics.length; i++) {
                republics[i] = new Republic();
            }
            for (int i = 0; i < rows.length; i++) {
                rows[i] = new Rows();
            }
        }

        Republic republicKept(int at) {
            return at >= 0 && at < republics.length ? republics[at] : null;
        }

        Rows rowsKept(int sort, int at) {
            int i = (sort - ORDERS) * OF_A_SORT + at;
            return i >= 0 && i < rows.length ? rows[i] : null;
        }

        void copyTold(Told other) {
            copy(other.tape, tape);
            length = other.length;
            fault = other.fault;
            place = other.place;
            copy(other.counts, counts);
            for (int i = 0; i < republics.length && i < other.republics.length; i++) {
                if (republics[i] != null && other.republics[i] != null) {
                    republics[i].copyRepublic(other.republics[i]);
                }
            }
            for (int i = 0; i < rows.length && i < other.rows.length; i++) {
                if (rows[i] != null && other.rows[i] != null) {
                    rows[i].copyRows(other.rows[i]);
                }
            }
        }
    }

    /** Water and heat. */
    private static final class Sky {
        int cloud;
        int ground;
        int heat;

        void settle(Republic r) {
            cloud = r.cloud;
            ground = r.ground;
            heat = r.heat;
        }

        boolean can(int day) {
            int warmth = heat + amount(day, SUN) - amount(day, WIND);
            return amount(day, RAIN) <= cloud && warmth >= 0 && warmth <= HOTTEST;
        }

        void bring(int day) {
            int soaked = ground + amount(day, RAIN);
            int risen = Math.min(amount(day, SUN), soaked);
            cloud += risen - amount(day, RAIN);
            ground = soaked - risen;
            heat += amount(day, SUN) - amount(day, WIND);
        }
    }

    /** What a year or a decade has come to. */
    private static final class Course {
        final Sky sky = new Sky();
        int season;
        int there;
        int resigned;
        final int[] anger = new int[MINISTERS];
        final int[] offices = new int[KINDS];
        int days;
        int committees;
        int latest;
        int rain;
        int longestDry;
        private int dry;
        private int chance;

        private void open(Republic r) {
            sky.settle(r);
            season = 0;
            there = r.everybody();
            resigned = 0;
            Arrays.fill(anger, 0);
            copy(r.offices, offices);
            days = 0;
            committees = 0;
            latest = NONE;
            rain = 0;
            longestDry = 0;
            dry = 0;
        }

        /** How many of the first n deeds can be, up to the first that can't. */
        int run(Republic r, Rows orders, Rows deeds, int n) {
            open(r);
            for (int k = 0; k < n; k++) {
                if (!happens(r, orders, deeds, k)) {
                    return k;
                }
            }
            return n;
        }

        private boolean happens(Republic r, Rows orders, Rows deeds, int k) {
            int first = deeds.part(k, 1);
            switch (deeds.part(k, 0)) {
                case MOVE:
                    int day = deeds.dayFrom(k, 2);
                    if (!has(there, first) || !sky.can(day) || firstBroken(orders, season, day, latest) != NONE) {
                        return false;
                    }
                    decide(r, first, day);
                    return true;
                case TO_SEASON:
                    season = first;
                    return true;
                case TO_OFFICE:
                    return takesOffice(first, deeds.part(k, 2));
                case DISMISS:
                    return isDismissed(first);
                case RECALL:
                    return isRecalled(r, first);
                case PASS:
                    committee();
                    return true;
                default:
                    return false;
            }
        }

        private boolean takesOffice(int kind, int minister) {
            boolean may = has(there, minister);
            if (may) {
                put(offices, kind, minister);
            }
            return may;
        }

        private boolean isDismissed(int minister) {
            boolean may = has(there, minister);
            if (may) {
                there &= ~(1 << minister);
            }
            return may;
        }

        private boolean isRecalled(Republic r, int minister) {
            boolean may = r.isMinister(minister) && !has(there, minister);
            if (may) {
                there |= 1 << minister;
                put(anger, minister, 0);
            }
            return may;
        }

        private void decide(Republic r, int by, int day) {
            int agree = r.agreeing(by, season, day);
            if (r.isPassed(there, agree)) {
                record(day);
                for (int m = 0; m < r.size; m++) {
                    if (has(there, m)) {
                        bear(r, m, has(agree, m));
                    }
                }
            } else {
                committee();
            }
        }

        private void bear(Republic r, int minister, boolean agrees) {
            int angry = agrees ? 0 : cell(anger, minister) + 1;
            int temper = cell(r.tempers, minister);
            put(anger, minister, angry);
            if (temper > 0 && angry >= temper) {
                resigned |= 1 << minister;
                there &= ~(1 << minister);
            }
        }

        private void committee() {
            committees++;
            record(numberOf(Math.min(sky.cloud, 1), 0, 0));
        }

        private void record(int day) {
            sky.bring(day);
            days++;
            latest = day;
            rain += amount(day, RAIN);
            dry = amount(day, RAIN) == 0 ? dry + 1 : 0;
            longestDry = Math.max(longestDry, dry);
        }

        void draw(Republic r, int seed, int n) {
            open(r);
            chance = seed;
            for (int day = 0; day < n; day++) {
                season = day / 5 % SEASONS;
                if (there == 0) {
                    committee();
                } else {
                    drawMotion(r);
                }
            }
        }

        private void drawMotion(Republic r) {
            int by = oneThere(drawBelow(Integer.bitCount(there)));
            int drawnRain = drawBelow(AMOUNTS);
            int drawnWind = drawBelow(AMOUNTS);
            int drawnSun = drawBelow(AMOUNTS);
            int day = numberOf(drawnRain, drawnWind, drawnSun);
            if (sky.can(day)) {
                decide(r, by, day);
            } else {
                committee();
            }
        }

        private int oneThere(int k) {
            int ahead = 0;
            for (int m = 0; m < MINISTERS; m++) {
                if (has(there, m)) {
                    if (ahead == k) {
                        return m;
                    }
                    ahead++;
                }
            }
            return NONE;
        }

        private int drawBelow(int n) {
            chance = chance * 1103515245 + 12345;
            return n > 0 ? (chance >>> 16) % n : 0;
        }
    }

    /** Reads bytes as a text of a sort; what it tells is the republic or the rows, if there is no fault. */
    private static final class Reader {
        private static final int END = 0;
        private static final int WORD = 1;
        private static final int NUMBER = 2;
        private static final int SEMICOLON = 3;
        private static final int STRANGE = 4;

        private static final int GRAMMAR_FAULT = 1;
        private static final int NUMBER_FAULT = 2;
        private static final int LIMIT_FAULT = 3;
        private static final int ABSENT_FAULT = 4;

        final Republic republic = new Republic();
        final Rows rows = new Rows();
        int fault;
        int place;
        private final int[] tape = new int[TAPE];
        private final int[] parts = new int[PARTS];
        private int length;
        private int token;
        private int start;
        private int end;
        private int lines;
        private int toldOf;

        void read(int[] bytes, int howMany, int sort) {
            copy(bytes, tape);
            startOn(howMany);
            boolean goesOn = true;
            for (int line = 0; line < TAPE && goesOn && token != END; line++) {
                goesOn = readLine(sort);
            }
            if (sort == REPUBLICS && toldOf >> republic.size != 0) {
                note(ABSENT_FAULT, length);
            }
        }

        private void startOn(int howMany) {
            republic.clear();
            rows.clear();
            fault = 0;
            place = NONE;
            length = howMany;
            end = 0;
            lines = 0;
            toldOf = 0;
            advance();
        }

        /** Faults are met by their places, but one of grammar puts aside all others. */
        private void note(int which, int where) {
            if (fault == 0 || which == GRAMMAR_FAULT) {
                fault = which;
                place = where;
            }
        }

        private boolean refuse() {
            note(GRAMMAR_FAULT, start);
            return false;
        }

        private static String wordsOf(int sort) {
            switch (sort) {
                case REPUBLICS:
                    return "minister want veto feud office quota spite cloud ground heat";
                case ORDERS:
                    return "no sum after";
                case YEARS:
                    return "move season office dismiss recall pass";
                case LEAKS:
                    return "said";
                case SUMMERS:
                    return "was";
                case BARGAINS:
                    return "share";
                default:
                    return "";
            }
        }

        /** What follows each of those words, a sign for each part: see readPart and mostOf. */
        private static String formsOf(int sort) {
            switch (sort) {
                case REPUBLICS:
                    return "vtaa; msaaa; m; mf; km; q; a; h; h; h;";
                case ORDERS:
                    return "kbai; t; kaka;";
                case YEARS:
                    return "maaa; s; km; m; m; ;";
                case LEAKS:
                    return "my;";
                case SUMMERS:
                    return "saaa;";
                case BARGAINS:
                    return "mh;";
                default:
                    return "";
            }
        }

        private boolean readLine(int sort) {
            int line = chosen(wordsOf(sort));
            if (line == NONE) {
                return refuse();
            }
            countLine(sort, line);
            advance();
            Arrays.fill(parts, NONE);
            String forms = formsOf(sort);
            int part = 0;
            for (int i = startOf(forms, line); i < forms.length() && forms.charAt(i) != ' '; i++) {
                if (!readPart(forms.charAt(i), part)) {
                    return refuse();
                }
                part++;
            }
            if (fault == 0) {
                take(sort, line);
            }
            return true;
        }

        private void countLine(int sort, int line) {
            if (sort != REPUBLICS || line == 0) {
                lines++;
                if (lines > cell(MOST_OF_A_TEXT, sort)) {
                    note(LIMIT_FAULT, start);
                }
            }
        }

        private boolean readPart(char form, int part) {
            if (form == ';') {
                return readSemicolon();
            }
            if (form == 'i') {
                if (chosen("in") == NONE) {
                    return true;
                }
                advance();
            }
            String words = choicesOf(form);
            if (words.isEmpty()) {
                return readNumber(form, part);
            }
            int word = chosen(words);
            if (word == NONE) {
                return false;
            }
            put(parts, part, word);
            advance();
            return true;
        }

        private static String choicesOf(char form) {
            switch (form) {
                case 'k':
                    return "rain wind sun";
                case 's':
                case 'i':
                    return "spring summer autumn winter";
                case 'b':
                    return "above below";
                case 'y':
                    return "no yes";
                default:
                    return "";
            }
        }

        private boolean readSemicolon() {
            if (token != SEMICOLON) {
                return false;
            }
            advance();
            return true;
        }

        private boolean readNumber(char form, int part) {
            if (token != NUMBER) {
                return false;
            }
            int number = 0;
            for (int i = start; i < end; i++) {
                number = number * 10 + cell(tape, i) - '0';
            }
            boolean ownFoe = form == 'f' && number == cell(parts, 0);
            if (number < leastOf(form) || number > mostOf(form) || ownFoe) {
                note(NUMBER_FAULT, start);
            }
            put(parts, part, number);
            advance();
            return true;
        }

        private static int leastOf(char form) {
            return form == 'v' || form == 'q' ? 1 : 0;
        }

        private static int mostOf(char form) {
            switch (form) {
                case 'm':
                case 'f':
                    return MINISTERS - 1;
                case 'a':
                case 'v':
                    return AMOUNTS - 1;
                case 't':
                    return 27;
                case 'q':
                    return 60;
                default:
                    return 99;
            }
        }

        private void take(int sort, int line) {
            switch (sort) {
                case REPUBLICS:
                    republic.takeLine(line, parts);
                    takeToldOf(line);
                    break;
                case ORDERS:
                    takeOrder(line);
                    break;
                case YEARS:
                    rows.add(line, parts, 0);
                    break;
                case BARGAINS:
                    rows.set(cell(parts, 0), 0, cell(parts, 1));
                    break;
                default:
                    rows.add(cell(parts, 0), parts, 1);
                    break;
            }
        }

        private void takeToldOf(int line) {
            boolean first = line == 1 || line == 2 || line == 3;
            boolean second = line == 3 || line == 4;
            toldOf |= first ? 1 << cell(parts, 0) : 0;
            toldOf |= second ? 1 << cell(parts, 1) : 0;
        }

        private void takeOrder(int line) {
            if (line == 0) {
                int kind = cell(parts, 1) == 0 ? NO_ABOVE : NO_BELOW;
                // Behind "above" or "below" the numbers of the order go on as told.
                put(parts, 1, cell(parts, 0));
                rows.add(kind, parts, 1);
            } else {
                rows.add(line == 1 ? SUM : AFTER, parts, 0);
            }
        }

        /** The place of the token among words that blanks part; NONE if it is none of them. */
        private int chosen(String words) {
            int word = 0;
            int from = 0;
            for (int i = 0; i <= words.length() && token == WORD; i++) {
                if (i == words.length() || words.charAt(i) == ' ') {
                    if (isToken(words, from, i)) {
                        return word;
                    }
                    word++;
                    from = i + 1;
                }
            }
            return NONE;
        }

        private boolean isToken(String words, int from, int to) {
            if (to - from != end - start) {
                return false;
            }
            for (int i = from; i < to && i < words.length(); i++) {
                if (words.charAt(i) != cell(tape, start + i - from)) {
                    return false;
                }
            }
            return true;
        }

        private static int startOf(String words, int word) {
            int ahead = 0;
            for (int i = 0; i < words.length(); i++) {
                if (ahead == word) {
                    return i;
                }
                if (words.charAt(i) == ' ') {
                    ahead++;
                }
            }
            return words.length();
        }

        private void advance() {
            start = end;
            while (start < length && isBlank(cell(tape, start))) {
                start++;
            }
            end = start;
            if (start >= length) {
                token = END;
            } else if (isLetter(cell(tape, start))) {
                token = WORD;
                while (end < length && isLetter(cell(tape, end))) {
                    end++;
                }
            } else if (isDigit(cell(tape, start))) {
                while (end < length && isDigit(cell(tape, end))) {
                    end++;
                }
                token = end - start <= 2 ? NUMBER : STRANGE;
            } else {
                token = cell(tape, start) == ';' ? SEMICOLON : STRANGE;
                end++;
            }
        }

        private static boolean isBlank(int sign) {
            return sign == 10 || sign == 32;
        }

        private static boolean isLetter(int sign) {
            return sign >= 'a' && sign <= 'z';
        }

        private static boolean isDigit(int sign) {
            return sign >= '0' && sign <= '9';
        }
    }
}

/**
 * Terms 2 and promises 6 to 14, sentence by sentence: what just may be and what just may not, the first and the last
 * of each row, and calls that are refused. Each block's first words are the document's own.
 */
public final class YearEdgesTest {
    private static final int NONE = WindCabinet.NONE;
    private static final int[] AMOUNTS = Check.andWild(-1, -2, 10, 11);
    private static final int[] SEASONS = Check.andWild(-1, -2, 4, 5);
    private static final int[] NO_SECOND = Check.andWild(-1, -2, 1, 2);

    private YearEdgesTest() {
    }

    public static void main(String[] args) {
        republicAtFirst();
        republicRefused();
        ministerAtFirst();
        ministerRefused();
        offAtItsEdges();
        offRefused();
        agreesAtYield();
        agreesInFeud();
        agreesToHisOwn();
        passesAtQuota();
        passesVetoes();
        voteRefused();
        orderAsTold();
        orderRefused();
        brokenAboveAndBelow();
        brokenBySum();
        brokenAfter();
        brokenInSeason();
        brokenFirstOfEight();
        brokenRefused();
        deedAsTold();
        deedRefused();
        natureOfRain();
        natureOfHeat();
        dayThen();
        yearBegins();
        stopOfMotions();
        stopOfOthers();
        stopAtEnds();
        stopRefused();
        committees();
        committeesOfMotions();
        angerGrows();
        angerEnds();
        temperAtItsEdges();
        whoIsNotThere();
        recalled();
        offices();
        seasons();
        fallen();
        latestDay();
        stateUpToStop();
        stateRefused();
        stateLeavesNothing();
        Check.finish();
    }

    private static int number(boolean answer) {
        return answer ? 1 : 0;
    }

    // ---- promises 6 and 7

    /** "QUOTA .. (10 at first), SPITE .. (2); CLOUD, GROUND .. (50 each), HEAT .. (20)"; "OFFICES .. (0 at first)" */
    private static void republicAtFirst() {
        int[] due = {0, 10, 2, 50, 50, 20};
        WindCabinet c = Check.of("");
        for (int what = 0; what < 6; what++) {
            Check.due("at first " + what, c.republic(0, what), due[what]);
        }
        for (int kind = 0; kind < 3; kind++) {
            Check.due("office at first " + kind, c.republic(0, 10 + kind), 0);
        }
        for (int size = 1; size <= 6; size++) {
            Check.due("ministers", Check.of("minister 1 0 0 0;".repeat(size)).republic(0, 0), size);
        }
        c = Check.of("quota 1; spite 0; cloud 0; ground 0; heat 0;");
        Check.told(c, 0, "quota 60; spite 9; cloud 99; ground 99; heat 99;");
        int[] least = {0, 1, 0, 0, 0, 0};
        int[] most = {0, 60, 9, 99, 99, 99};
        for (int what = 0; what < 6; what++) {
            Check.due("the least " + what, c.republic(0, what), least[what]);
            Check.due("the most " + what, c.republic(1, what), most[what]);
        }
    }

    /** "NONE: there is none such, or for another what." */
    private static void republicRefused() {
        int[] others = Check.andWild(-1, -2, 6, 7, 8, 9, 13, 14);
        Check.refused("republic", NONE, n -> Check.of("").republic(n[0], n[1]), new int[] {0, 1}, NO_SECOND, others);
        WindCabinet two = Check.of("");
        Check.told(two, 0, "");
        Check.refused("republic", NONE, n -> two.republic(n[0], n[1]), new int[] {1, 12}, Check.andWild(-1, 2, 3),
                others);
    }

    /** "WANTS .. (0 at first); a VETO, or none (at first); FEUDS .. (each the other's; none at first)" */
    private static void ministerAtFirst() {
        WindCabinet c = Check.of(Check.ministers("1 0 0 0", "9 27 9 9"));
        for (int what = 4; what < 22; what++) {
            if (what < 6 || what > 9) {
                Check.due("at first " + what, c.minister(0, 0, what), 0);
            }
        }
        int[] most = {9, 27, 9, 9};
        int[] least = {1, 0, 0, 0};
        for (int what = 0; what < 4; what++) {
            Check.due("the least " + what, c.minister(0, 0, what), least[what]);
            Check.due("the most " + what, c.minister(0, 1, what), most[what]);
        }
        c = Check.of("minister 1 0 0 0;".repeat(6) + "veto 5; feud 0 5; feud 4 5; feud 1 2;"
                + "want 5 spring 1 2 3; want 5 summer 4 5 6; want 5 autumn 7 8 9; want 5 winter 9 0 1;");
        int[] feuds = {32, 4, 2, 0, 32, 17};
        for (int m = 0; m < 6; m++) {
            Check.due("feuds of " + m, c.minister(0, m, 5), feuds[m]);
            Check.due("veto of " + m, c.minister(0, m, 4), m == 5 ? 1 : 0);
        }
        int[] wants = {1, 2, 3, 4, 5, 6, 7, 8, 9, 9, 0, 1};
        for (int i = 0; i < 12; i++) {
            Check.due("the last one's want " + i, c.minister(0, 5, 10 + i), wants[i]);
            Check.due("the one's ahead of him", c.minister(0, 4, 10 + i), 0);
        }
    }

    /** "NONE: there is none such (of either), or for another what." */
    private static void ministerRefused() {
        int[] others = Check.andWild(-1, -2, 6, 7, 8, 9, 22, 23);
        WindCabinet c = Check.of(Check.ministers("1 0 0 0", "1 0 0 0"));
        Check.refused("minister", NONE, n -> c.minister(n[0], n[1], n[2]), new int[] {0, 1, 21}, NO_SECOND,
                Check.andWild(-1, -2, 2, 3, 5, 6), others);
        WindCabinet six = Check.of("minister 1 0 0 0;".repeat(6));
        Check.refused("minister", NONE, n -> six.minister(n[0], n[1], n[2]), new int[] {0, 5, 0}, NO_SECOND,
                Check.andWild(-1, 6, 7), others);
        Check.due("a republic without ministers has no first one", Check.of("").minister(0, 0, 0), NONE);
    }

    // ---- promise 8

    /** "OFF of a MINISTER in a SEASON: the sizes of all differences of AMOUNTS from his WANTS, together." */
    private static void offAtItsEdges() {
        WindCabinet c = Check.of(Check.ministers("1 0 0 0", "1 0 0 0") + "want 1 spring 9 9 9; want 1 summer 5 4 3;"
                + "want 1 winter 0 9 0;");
        Check.due("nothing", c.off(0, 0, 0, 0, 0, 0), 0);
        Check.due("the most", c.off(0, 0, 0, 9, 9, 9), 27);
        Check.due("the most, from above", c.off(0, 1, 0, 0, 0, 0), 27);
        Check.due("nothing", c.off(0, 1, 0, 9, 9, 9), 0);
        Check.due("rain above", c.off(0, 1, 1, 7, 4, 3), 2);
        Check.due("rain below", c.off(0, 1, 1, 2, 4, 3), 3);
        Check.due("wind above", c.off(0, 1, 1, 5, 8, 3), 4);
        Check.due("wind below", c.off(0, 1, 1, 5, 0, 3), 4);
        Check.due("sun above", c.off(0, 1, 1, 5, 4, 9), 6);
        Check.due("sun below", c.off(0, 1, 1, 5, 4, 0), 3);
        Check.due("sizes, one against the other", c.off(0, 1, 1, 6, 3, 3), 2);
        Check.due("all three", c.off(0, 1, 1, 0, 9, 9), 5 + 5 + 6);
        Check.due("no wants in autumn", c.off(0, 1, 2, 1, 2, 3), 6);
        Check.due("in winter", c.off(0, 1, 3, 9, 0, 9), 27);
    }

    /** "NONE: there is none such (of any), or other AMOUNTS." */
    private static void offRefused() {
        WindCabinet c = Check.of(Check.ministers("1 0 0 0", "1 0 0 0"));
        int[][] bad = {NO_SECOND, Check.andWild(-1, 2, 3, 5, 6), SEASONS, AMOUNTS, AMOUNTS, AMOUNTS};
        for (int[] good : new int[][] {{0, 0, 0, 0, 0, 0}, {0, 1, 3, 9, 9, 9}}) {
            Check.refused("off", NONE, n -> c.off(n[0], n[1], n[2], n[3], n[4], n[5]), good, bad);
        }
    }

    // ---- promise 9

    /** "He AGREES to a motion .. if OFF is not above YIELD" */
    private static void agreesAtYield() {
        for (int yield = 0; yield <= 27; yield++) {
            WindCabinet c = Check.of(Check.ministers("1 0 0 0", "1 " + yield + " 0 0"));
            for (int off = 0; off <= 27; off++) {
                int rain = Math.min(off, 9);
                int wind = Math.min(off - rain, 9);
                Check.due("yield " + yield + ", off " + off,
                        c.vote(0, 0, 0, rain, wind, off - rain - wind, false), off <= yield ? 3 : 1);
            }
        }
    }

    /** "(less SPITE, if he has a FEUD with who moves it)" */
    private static void agreesInFeud() {
        for (int spite = 0; spite <= 9; spite++) {
            // The second and the third yield 4; the second feuds with the first alone.
            WindCabinet c = Check.of(Check.ministers("1 0 0 0", "1 4 0 0", "1 4 0 0") + "feud 1 0; spite " + spite
                    + ";");
            for (int off = 0; off <= 5; off++) {
                int agree = 1 | (off <= 4 - spite ? 2 : 0) | (off <= 4 ? 4 : 0);
                Check.due("spite " + spite + ", off " + off, c.vote(0, 0, 0, off, 0, 0, false), agree);
                Check.due("moved by the third", c.vote(0, 2, 0, off, 0, 0, false), off == 0 ? 7 : off <= 4 ? 6 : 4);
            }
            Check.due("of a couple each has the feud", c.vote(0, 1, 0, 0, 0, 0, false), spite == 0 ? 7 : 6);
        }
    }

    /** "if it is his own" */
    private static void agreesToHisOwn() {
        WindCabinet c = Check.of("minister 1 0 0 0;".repeat(6) + "feud 0 5; spite 9;");
        for (int m = 0; m < 6; m++) {
            Check.due("his own, as far off as may be", c.vote(0, m, 0, 9, 9, 9, false), 1 << m);
        }
        Check.due("what all want, but for a feud", c.vote(0, 5, 0, 0, 0, 0, false), 62);
        Check.due("what all want, without a feud", c.vote(0, 4, 0, 0, 0, 0, false), 63);
    }

    /** "It PASSES, if those who are there and agree have QUOTA VOTES together, or more" */
    private static void passesAtQuota() {
        for (int quota = 1; quota <= 60; quota++) {
            WindCabinet c = Check.of("minister 9 0 0 0;".repeat(6) + "want 5 spring 1 0 0; quota " + quota + ";");
            Check.due("54 votes, quota " + quota, c.vote(0, 0, 1, 0, 0, 0, true), number(54 >= quota));
            Check.due("45 votes, quota " + quota, c.vote(0, 0, 0, 0, 0, 0, true), number(45 >= quota));
            Check.due("9 votes, quota " + quota, c.vote(0, 5, 0, 9, 9, 9, true), number(9 >= quota));
        }
        for (int votes = 1; votes <= 9; votes++) {
            WindCabinet c = Check.of("quota 5;" + Check.ministers(votes + " 0 0 0"));
            Check.due("votes " + votes, c.vote(0, 0, 0, 0, 0, 0, true), number(votes >= 5));
        }
    }

    /** "and nobody who is there has a VETO and does not agree" */
    private static void passesVetoes() {
        for (int m = 1; m < 6; m++) {
            WindCabinet c = Check.of("minister 1 0 0 0;".repeat(6) + "quota 1; veto " + m + ";");
            Check.due("he agrees", c.vote(0, 0, 0, 0, 0, 0, true), 1);
            Check.due("he does not", c.vote(0, 0, 0, 0, 0, 1, true), 0);
            Check.due("his own", c.vote(0, m, 0, 0, 0, 1, true), 1);
        }
        WindCabinet c = Check.of(Check.ministers("1 0 0 0", "1 0 0 0", "1 9 0 0")
                + "quota 2; veto 0; veto 1; veto 2;");
        Check.due("one of several does not", c.vote(0, 0, 0, 0, 0, 1, true), 0);
        Check.due("all agree", c.vote(0, 0, 0, 0, 0, 0, true), 1);
        c = Check.of(Check.ministers("1 0 0 0", "1 0 0 0") + "quota 3; veto 0; veto 1;");
        Check.due("a veto is no vote", c.vote(0, 0, 0, 0, 0, 0, true), 0);
    }

    /** "NONE: as off()." */
    private static void voteRefused() {
        WindCabinet c = Check.of(Check.ministers("9 0 0 0", "9 0 0 0"));
        int[][] bad = {NO_SECOND, Check.andWild(-1, 2, 3, 5, 6), SEASONS, AMOUNTS, AMOUNTS, AMOUNTS};
        for (int[] good : new int[][] {{0, 0, 0, 0, 0, 0}, {0, 1, 3, 9, 9, 9}}) {
            Check.refused("vote", NONE, n -> c.vote(n[0], n[1], n[2], n[3], n[4], n[5], false), good, bad);
            Check.refused("passes", NONE, n -> c.vote(n[0], n[1], n[2], n[3], n[4], n[5], true), good, bad);
        }
    }

    // ---- promises 10 and 11

    /** "of ORDER k, what 0: 0 no .. above, 1 no .. below, 2 sum, 3 after, 1 .. 4: its numbers .. NONE without" */
    private static void orderAsTold() {
        WindCabinet c = Check.of("", "no rain above 0; no sun below 9 in spring; no wind above 5 in winter; sum 0;"
                + "sum 27;after rain 0 rain 0; after sun 9 wind 8; no rain below 0 in summer;");
        int[][] due = {{0, 0, 0, -1, -1}, {1, 2, 9, 0, -1}, {0, 1, 5, 3, -1}, {2, 0, -1, -1, -1}, {2, 27, -1, -1, -1},
            {3, 0, 0, 0, 0}, {3, 2, 9, 1, 8}, {1, 0, 0, 1, -1}};
        Check.due("how many", c.order(0, NONE, 0), 8);
        for (int k = 0; k < 8; k++) {
            for (int what = 0; what < 5; what++) {
                Check.due("order " + k + "'s " + what, c.order(0, k, what), due[k][what]);
            }
        }
    }

    /** "-2: there is none such (of either), or for another what." */
    private static void orderRefused() {
        WindCabinet c = Check.of("", "sum 1; after rain 1 sun 2;");
        int[] others = Check.andWild(-1, -2, 5, 6);
        Check.refused("order", -2, n -> c.order(n[0], n[1], n[2]), new int[] {0, 1, 4}, NO_SECOND,
                Check.andWild(-2, -3, 2, 3, 7, 8), others);
        Check.refused("orders", -2, n -> c.order(n[0], n[1], n[2]), new int[] {0, NONE, 0}, NO_SECOND, new int[] {},
                Check.andWild(-1, -2, 1, 2, 3, 4, 5));
    }

    private static void isBroken(WindCabinet c, int[] day, int ahead, boolean due) {
        Check.due("broken by " + day[0] + day[1] + day[2] + " behind " + ahead,
                c.broken(0, 0, day[0], day[1], day[2], ahead), due ? 0 : NONE);
    }

    /** "no .. above (below): the AMOUNT of that KIND is above (below) the number" */
    private static void brokenAboveAndBelow() {
        String[] kinds = {"rain", "wind", "sun"};
        for (int kind = 0; kind < 3; kind++) {
            for (int bound : new int[] {0, 1, 5, 8, 9}) {
                WindCabinet above = Check.of("", "no " + kinds[kind] + " above " + bound + ";");
                WindCabinet below = Check.of("", "no " + kinds[kind] + " below " + bound + ";");
                for (int amount = 0; amount < 10; amount++) {
                    int[] day = {3, 4, 5};
                    day[kind] = amount;
                    isBroken(above, day, NONE, amount > bound);
                    isBroken(below, day, NONE, amount < bound);
                }
            }
        }
    }

    /** "sum: AMOUNTS together are above it" */
    private static void brokenBySum() {
        for (int sum = 0; sum <= 27; sum++) {
            WindCabinet c = Check.of("", "sum " + sum + ";");
            for (int all = 0; all <= 27; all++) {
                int wind = Math.min(all, 9);
                int sun = Math.min(all - wind, 9);
                isBroken(c, new int[] {all - wind - sun, wind, sun}, NONE, all > sum);
            }
        }
    }

    /** "after: on the day ahead there was so much of the first KIND, or more, and now there is more of the second" */
    private static void brokenAfter() {
        String[] kinds = {"rain", "wind", "sun"};
        int[] places = {100, 10, 1};
        for (int first = 0; first < 3; first++) {
            for (int second = 0; second < 3; second++) {
                WindCabinet c = Check.of("", "after " + kinds[first] + " 4 " + kinds[second] + " 6;");
                for (int much = 3; much <= 5; much++) {
                    for (int now = 5; now <= 7; now++) {
                        int[] day = {0, 0, 0};
                        day[second] = now;
                        // The other figures of the day ahead would mislead who looks at them.
                        int others = first == 0 ? 99 : first == 1 ? 909 : 990;
                        isBroken(c, day, others + much * places[first], much >= 4 && now > 6);
                        isBroken(c, day, much * places[first], much >= 4 && now > 6);
                    }
                }
            }
        }
        WindCabinet c = Check.of("", "after rain 0 rain 0;");
        isBroken(c, new int[] {1, 0, 0}, 0, true);
        isBroken(c, new int[] {1, 0, 0}, 999, true);
        isBroken(c, new int[] {0, 9, 9}, 0, false);
        // "on the first day: not broken"
        isBroken(c, new int[] {9, 9, 9}, NONE, false);
        c = Check.of("", "after sun 9 rain 9;");
        isBroken(c, new int[] {9, 9, 9}, 999, false);
    }

    /** "(in that SEASON alone, if it tells one)" */
    private static void brokenInSeason() {
        String[] names = {"spring", "summer", "autumn", "winter"};
        for (int told = 0; told < 4; told++) {
            WindCabinet c = Check.of("", "no rain above 4 in " + names[told] + "; no wind below 5 in "
                    + names[told] + ";");
            for (int season = 0; season < 4; season++) {
                Check.due("above, told of " + told, c.broken(0, season, 5, 5, 0, NONE), season == told ? 0 : NONE);
                Check.due("below, told of " + told, c.broken(0, season, 4, 4, 0, NONE), season == told ? 1 : NONE);
            }
        }
        WindCabinet c = Check.of("", "no rain above 4; no wind below 5; sum 12; after rain 1 sun 3;");
        for (int season = 0; season < 4; season++) {
            Check.due("in each season", c.broken(0, season, 5, 5, 0, NONE), 0);
            Check.due("in each season", c.broken(0, season, 4, 4, 0, NONE), 1);
            Check.due("in each season", c.broken(0, season, 4, 9, 0, NONE), 2);
            Check.due("in each season", c.broken(0, season, 0, 5, 4, 100), 3);
            Check.due("in each season", c.broken(0, season, 0, 5, 3, 100), NONE);
        }
    }

    /** "The first ORDER that a DAY breaks .. NONE: none" */
    private static void brokenFirstOfEight() {
        StringBuilder orders = new StringBuilder();
        for (int sum = 23; sum >= 16; sum--) {
            orders.append("sum ").append(sum).append(';');
        }
        WindCabinet c = Check.of("", orders.toString());
        Check.due("the first", c.broken(0, 0, 9, 9, 6, NONE), 0);
        Check.due("the second", c.broken(0, 0, 9, 9, 5, NONE), 1);
        Check.due("the eighth", c.broken(0, 0, 9, 8, 0, NONE), 7);
        Check.due("none", c.broken(0, 0, 9, 7, 0, NONE), NONE);
        Check.due("no orders, none", Check.of("", "").broken(0, 0, 9, 9, 9, 999), NONE);
        Check.told(c, 1, "no rain below 9; sum 0;");
        Check.due("of the second row", c.broken(1, 0, 8, 0, 0, NONE), 0);
        Check.due("of the second row", c.broken(1, 0, 9, 0, 0, NONE), 1);
    }

    /** "NONE: none, or there is none such (of any), other AMOUNTS." */
    private static void brokenRefused() {
        WindCabinet c = Check.of("", "sum 0; no rain below 9; no sun below 9;");
        Check.refused("broken", NONE, n -> c.broken(n[0], n[1], n[2], n[3], n[4], n[5]), new int[] {0, 0, 0, 0, 0, 0},
                NO_SECOND, SEASONS, AMOUNTS, AMOUNTS, AMOUNTS, Check.andWild(-2, -3, 1000, 1001));
        Check.refused("broken", NONE, n -> c.broken(n[0], n[1], n[2], n[3], n[4], n[5]),
                new int[] {0, 3, 9, 9, 9, 999},
                NO_SECOND, SEASONS, AMOUNTS, AMOUNTS, AMOUNTS, Check.andWild(-2, -3, 1000, 1001));
    }

    // ---- promise 12

    /** "of DEED k, what 0: 0 move, 1 season, 2 office, .. 5 pass, 1 .. 4: its numbers, as told (.. NONE without)" */
    private static void deedAsTold() {
        WindCabinet c = Check.of("", "", "move 5 0 9 1; move 0 0 0 0; season spring; season winter; office rain 5;"
                + "office sun 0; dismiss 0; dismiss 5; recall 0; recall 5; pass;" + "pass;".repeat(28)
                + "move 1 2 3 4;");
        int[][] due = {{0, 5, 0, 9, 1}, {0, 0, 0, 0, 0}, {1, 0, -1, -1, -1}, {1, 3, -1, -1, -1}, {2, 0, 5, -1, -1},
            {2, 2, 0, -1, -1}, {3, 0, -1, -1, -1}, {3, 5, -1, -1, -1}, {4, 0, -1, -1, -1}, {4, 5, -1, -1, -1},
            {5, -1, -1, -1, -1}};
        Check.due("how many", c.deed(0, NONE, 0), 40);
        for (int what = 0; what < 5; what++) {
            for (int k = 0; k < due.length; k++) {
                Check.due("deed " + k + "'s " + what, c.deed(0, k, what), due[k][what]);
            }
            Check.due("the fortieth", c.deed(0, 39, what), what);
        }
    }

    /** "-2: there is none such (of either), or for another what." */
    private static void deedRefused() {
        WindCabinet c = Check.of("", "", "pass; move 1 2 3 4;");
        Check.refused("deed", -2, n -> c.deed(n[0], n[1], n[2]), new int[] {0, 1, 4}, NO_SECOND,
                Check.andWild(-2, -3, 2, 3, 39, 40), Check.andWild(-1, -2, 5, 6));
        Check.refused("deeds", -2, n -> c.deed(n[0], n[1], n[2]), new int[] {0, NONE, 0}, NO_SECOND, new int[] {},
                Check.andWild(-1, -2, 1, 2, 3, 4, 5));
    }

    // ---- nature

    private static final String ALONE = "minister 9 27 0 0; quota 1;";

    private static int stopOf(String republic, String orders, String year) {
        return Check.of(republic, orders, year).stop(0, 0, 0);
    }

    /** "Nature CAN a DAY, if RAIN is not above CLOUD" */
    private static void natureOfRain() {
        for (int cloud : new int[] {0, 1, 5, 8, 9, 10, 99}) {
            for (int rain = 0; rain < 10; rain++) {
                Check.due("cloud " + cloud + ", rain " + rain,
                        stopOf(ALONE + "cloud " + cloud + ";", "", "move 0 " + rain + " 0 0;"), number(rain <= cloud));
            }
        }
        Check.due("what GROUND has does not rain", stopOf(ALONE + "cloud 0; ground 99;", "", "move 0 1 0 9;"), 0);
    }

    /** "and HEAT and SUN, less WIND, come to 0 .. 99" */
    private static void natureOfHeat() {
        for (int heat : new int[] {0, 1, 8, 9, 50, 90, 91, 98, 99}) {
            for (int wind = 0; wind < 10; wind++) {
                WindCabinet c = Check.of(ALONE + "heat " + heat + ";", "", "move 0 0 " + wind + " 0;");
                Check.due("heat " + heat + ", wind " + wind, c.stop(0, 0, 0), number(heat >= wind));
                Check.due("heat then", c.state(0, 0, 0, 1, 6), heat >= wind ? heat - wind : -2);
                c = Check.of(ALONE + "heat " + heat + ";", "", "move 0 0 0 " + wind + ";");
                Check.due("heat " + heat + ", sun " + wind, c.stop(0, 0, 0), number(heat + wind <= 99));
                Check.due("heat then", c.state(0, 0, 0, 1, 6), heat + wind <= 99 ? heat + wind : -2);
            }
        }
        Check.due("sun against wind", stopOf(ALONE + "heat 0;", "", "move 0 0 9 9;"), 1);
        Check.due("sun against wind", stopOf(ALONE + "heat 0;", "", "move 0 0 9 8;"), 0);
        Check.due("sun against wind", stopOf(ALONE + "heat 99;", "", "move 0 0 9 9;"), 1);
        Check.due("sun against wind", stopOf(ALONE + "heat 99;", "", "move 0 0 8 9;"), 0);
    }

    private static void waterThen(int cloud, int ground, int rain, int sun, int cloudThen, int groundThen) {
        WindCabinet c = Check.of(ALONE + "cloud " + cloud + "; ground " + ground + ";", "",
                "move 0 " + rain + " 0 " + sun + ";");
        String call = "cloud " + cloud + ", ground " + ground + ", rain " + rain + ", sun " + sun;
        Check.due(call + ": CLOUD", c.state(0, 0, 0, 1, 4), cloudThen);
        Check.due(call + ": GROUND", c.state(0, 0, 0, 1, 5), groundThen);
    }

    /** "RAIN goes from CLOUD to GROUND; of what GROUND has then SUN goes to CLOUD, or all, if it has less" */
    private static void dayThen() {
        waterThen(5, 5, 0, 0, 5, 5);
        waterThen(5, 5, 5, 0, 0, 10);
        waterThen(5, 5, 0, 4, 9, 1);
        waterThen(5, 5, 0, 5, 10, 0);
        waterThen(5, 5, 0, 6, 10, 0);
        waterThen(5, 0, 0, 9, 5, 0);
        waterThen(5, 0, 3, 2, 4, 1);
        waterThen(5, 0, 3, 3, 5, 0);
        waterThen(5, 0, 3, 4, 5, 0);
        waterThen(9, 1, 9, 9, 9, 1);
        waterThen(99, 99, 9, 0, 90, 108);
        waterThen(99, 99, 0, 9, 108, 90);
    }

    // ---- years

    /** "A YEAR .. begins in SPRING, all there, without ANGER." */
    private static void yearBegins() {
        WindCabinet c = Check.of("minister 1 0 9 0;".repeat(6)
                + "cloud 1; ground 2; heat 3; office wind 4; office sun 5;", "", "pass;");
        int[] due = {0, 0, 63, 0, 1, 2, 3, 0, 1, -1, 0, 4, 5};
        for (int what = 0; what < due.length; what++) {
            Check.due("behind no deed, " + what, c.state(0, 0, 0, 0, what), due[what]);
        }
        for (int m = 0; m < 6; m++) {
            Check.due("ANGER of " + m, c.state(0, 0, 0, 0, 20 + m), 0);
        }
        for (int size = 0; size <= 5; size++) {
            Check.due("all " + size + " there", Check.of("minister 1 0 0 0;".repeat(size), "", "").state(0, 0, 0, 0,
                    2),
                    (1 << size) - 1);
        }
    }

    /** "STOP: the first DEED that can't be (as said; no such MINISTER)": a motion */
    private static void stopOfMotions() {
        Check.due("by nobody such", stopOf(ALONE, "", "move 1 0 0 0;"), 0);
        Check.due("by the last one", stopOf("minister 9 0 0 0;".repeat(6), "", "move 5 0 0 0;"), 1);
        Check.due("by one who is dismissed", stopOf(ALONE, "", "dismiss 0; move 0 0 0 0;"), 1);
        Check.due("by one who is recalled", stopOf(ALONE, "", "dismiss 0; recall 0; move 0 0 0 0;"), 3);
        Check.due("an order of spring", stopOf(ALONE, "no sun above 4 in spring;", "pass; move 0 0 0 5;"), 1);
        Check.due("just not above", stopOf(ALONE, "no sun above 4 in spring;", "pass; move 0 0 0 4;"), 2);
        Check.due("not in summer", stopOf(ALONE, "no sun above 4 in spring;",
                "season summer; move 0 0 0 5; season spring;"
                + "move 0 0 0 5; pass;"), 3);
        Check.due("the second order", stopOf(ALONE, "sum 26; sum 5;", "move 0 2 2 2;"), 0);
        Check.due("after, on the first day", stopOf(ALONE, "after wind 0 wind 0;", "move 0 0 1 0; move 0 0 1 0;"), 1);
        Check.due("after, behind a committee's day", stopOf(ALONE, "after rain 1 wind 0;", "pass; move 0 0 1 0;"), 1);
        Check.due("after a committee's dry day", stopOf(ALONE + "cloud 0;", "after rain 1 wind 0;",
                "pass; move 0 0 1 0;"), 2);
        Check.due("after, the latest day alone", stopOf(ALONE, "after wind 5 sun 0;",
                "move 0 0 5 0; move 0 0 4 0; move 0 0 0 1;"), 3);
        Check.due("after, deeds of no day between", stopOf(ALONE, "after wind 5 sun 0;",
                "move 0 0 5 0; season winter; office sun 0; move 0 0 0 1;"), 3);
        Check.due("a day that breaks an order can't be, pass or not",
                stopOf("minister 1 0 0 0;", "sum 0;", "move 0 1 0 0;"), 0);
        Check.due("a day that nature can't, pass or not", stopOf("minister 1 0 0 0; cloud 0;", "", "move 0 1 0 0;"),
                0);
        Check.due("a day that does not pass can be", stopOf("minister 1 0 0 0; quota 60;", "", "move 0 1 0 0;"), 1);
        Check.due("rain as it is then", stopOf(ALONE + "cloud 5; ground 0;", "", "move 0 3 0 0; move 0 3 0 0;"), 1);
        Check.due("rain as it is then", stopOf(ALONE + "cloud 5; ground 0;", "", "move 0 3 0 1; move 0 3 0 0;"), 2);
        Check.due("heat as it is then", stopOf(ALONE + "heat 5;", "", "move 0 0 3 0; move 0 0 3 0;"), 1);
    }

    /** "office: who is there .. dismiss: who is there .. recall: who is not is there" */
    private static void stopOfOthers() {
        String two = "minister 9 0 0 0; minister 9 0 0 0;";
        for (String kind : new String[] {"rain", "wind", "sun"}) {
            Check.due("who is there", stopOf(two, "", "office " + kind + " 1;"), 1);
            Check.due("who is not there", stopOf(two, "", "dismiss 1; office " + kind + " 1;"), 1);
            Check.due("nobody such", stopOf(two, "", "office " + kind + " 2;"), 0);
        }
        Check.due("who is there is dismissed", stopOf(two, "", "dismiss 1; dismiss 0;"), 2);
        Check.due("who is not there is not dismissed", stopOf(two, "", "dismiss 1; dismiss 1;"), 1);
        Check.due("nobody such is dismissed", stopOf(two, "", "dismiss 2;"), 0);
        Check.due("who is not there is recalled", stopOf(two, "", "dismiss 1; recall 1; dismiss 1; recall 1;"), 4);
        Check.due("who is there is not recalled", stopOf(two, "", "recall 1;"), 0);
        Check.due("nobody such is recalled", stopOf(two, "", "recall 2;"), 0);
        Check.due("the last of six", stopOf("minister 9 0 0 0;".repeat(6), "",
                "dismiss 5; recall 5; office sun 5;"), 3);
        Check.due("of none", stopOf("", "", "pass; season winter; dismiss 0;"), 2);
        String quick = "minister 9 27 0 0; minister 1 0 1 0; quota 1;";
        Check.due("who resigned is not dismissed", stopOf(quick, "", "move 0 1 0 0; dismiss 1;"), 1);
        Check.due("who resigned has no office", stopOf(quick, "", "move 0 1 0 0; office sun 1;"), 1);
        Check.due("who resigned moves nothing", stopOf(quick, "", "move 0 1 0 0; move 1 0 0 0;"), 1);
        Check.due("who resigned is recalled", stopOf(quick, "", "move 0 1 0 0; recall 1; move 1 0 0 0;"), 3);
    }

    /** "else how many there are" */
    private static void stopAtEnds() {
        Check.due("no deeds", stopOf(ALONE, "", ""), 0);
        Check.due("one that can be", stopOf(ALONE, "", "pass;"), 1);
        Check.due("40 deeds", stopOf(ALONE, "", "pass;".repeat(40)), 40);
        Check.due("the last of 40 can't be", stopOf(ALONE, "", "pass;".repeat(39) + "recall 0;"), 39);
        Check.due("the first of several that can't be", stopOf(ALONE, "", "pass; recall 0; recall 0; pass;"), 1);
    }

    /** "NONE: there is none such (of any)." */
    private static void stopRefused() {
        WindCabinet c = Check.of(ALONE, "", "pass;");
        Check.refused("stop", NONE, n -> c.stop(n[0], n[1], n[2]), new int[] {0, 0, 0}, NO_SECOND, NO_SECOND,
                NO_SECOND);
    }

    private static void states(String call, WindCabinet c, int n, int... due) {
        for (int what = 0; what < due.length; what++) {
            Check.due(call + ", behind " + n + ", " + what, c.state(0, 0, 0, n, what), due[what]);
        }
    }

    /** "a COMMITTEE's: RAIN 1, if CLOUD has one, and nothing else, be it an ORDER's or not" */
    private static void committees() {
        WindCabinet c = Check.of(ALONE + "cloud 2; ground 3; heat 99;", "no rain above 0; sum 0; no sun below 9;",
                "pass; pass; pass;");
        states("pass", c, 1, 1, 0, 1, 0, 1, 4, 99, 1, 0, 100);
        states("the last one of CLOUD", c, 2, 2, 0, 1, 0, 0, 5, 99, 2, 0, 100);
        states("CLOUD has none", c, 3, 3, 0, 1, 0, 0, 5, 99, 3, 0, 0);
        c = Check.of("cloud 1; heat 0;", "", "pass;".repeat(40));
        states("40 days of nobody", c, 40, 40, 0, 0, 0, 0, 51, 0, 40, 1, 0);
    }

    /** "if it PASSES, it is that DAY .. else it is a COMMITTEE's .. nobody's ANGER changes" */
    private static void committeesOfMotions() {
        // The second one makes the quota alone, the first does not; the third would be angry at 1 0 0 and 2 0 0.
        WindCabinet c = Check.of(Check.ministers("1 0 0 0", "9 0 0 0", "1 0 3 0")
                + "quota 9; want 1 spring 1 0 0; cloud 9; ground 0;", "",
                "move 1 1 0 0; move 0 2 2 2; move 2 2 2 2; pass; move 1 2 0 0;");
        states("it passes", c, 1, 1, 0, 7, 0, 8, 1, 20, 0, 0, 100);
        states("it does not", c, 2, 2, 0, 7, 0, 7, 2, 20, 1, 0, 100);
        states("it does not, moved by the third", c, 3, 3, 0, 7, 0, 6, 3, 20, 2, 0, 100);
        states("pass", c, 4, 4, 0, 7, 0, 5, 4, 20, 3, 0, 100);
        states("it passes", c, 5, 5, 0, 7, 0, 3, 6, 20, 3, 0, 200);
        int[][] anger = {{1, 0, 1}, {1, 0, 1}, {1, 0, 1}, {1, 0, 1}, {2, 0, 2}};
        for (int n = 1; n <= 5; n++) {
            for (int m = 0; m < 3; m++) {
                Check.due("ANGER of " + m + " behind " + n, c.state(0, 0, 0, n, 20 + m), anger[n - 1][m]);
            }
        }
    }

    // ---- anger

    private static final String TWO = "minister 9 27 0 0; quota 9;";

    /** "of all there who do not agree ANGER is 1 more, of the others 0" */
    private static void angerGrows() {
        // The second yields nothing, the third one unit; in winter all want as in spring.
        WindCabinet c = Check.of(TWO + Check.ministers("1 0 9 0", "1 1 9 0"), "",
                "move 0 1 0 0; move 0 2 0 0; move 0 1 0 0;"
                + "move 0 2 0 0; pass; move 0 0 0 0; season winter; move 0 0 9 9;");
        int[][] due = {{0, 1, 0}, {0, 2, 1}, {0, 3, 0}, {0, 4, 1}, {0, 4, 1}, {0, 0, 0}, {0, 0, 0}, {0, 1, 1}};
        for (int n = 1; n <= due.length; n++) {
            for (int m = 0; m < 3; m++) {
                Check.due("ANGER of " + m + " behind " + n, c.state(0, 0, 0, n, 20 + m), due[n - 1][m]);
            }
        }
    }

    /** "of the others 0": who moves it himself agrees, too */
    private static void angerEnds() {
        WindCabinet c = Check.of(Check.ministers("9 27 9 0", "9 0 9 0") + "quota 9;", "",
                "move 0 1 0 0; move 0 1 0 0; move 1 9 0 0;"
                + "move 0 1 0 0;");
        int[] due = {0, 1, 2, 0, 1};
        for (int n = 0; n <= 4; n++) {
            Check.due("ANGER behind " + n, c.state(0, 0, 0, n, 21), due[n]);
        }
    }

    /** "who has a TEMPER and as much ANGER RESIGNS (by numbers; he is there no more)" */
    private static void temperAtItsEdges() {
        for (int temper = 0; temper <= 9; temper++) {
            WindCabinet c = Check.of(TWO + "minister 1 0 " + temper + " 0; ground 99;", "",
                    "move 0 0 1 1;".repeat(40));
            for (int n : new int[] {1, 2, 8, 9, 10, 40}) {
                boolean resigned = temper > 0 && n >= temper;
                Check.due("temper " + temper + ", who is there behind " + n, c.state(0, 0, 0, n, 2), resigned ? 1 : 3);
                Check.due("temper " + temper + ", who resigned behind " + n, c.state(0, 0, 0, n, 3), resigned ? 2 : 0);
                Check.due("temper " + temper + ", ANGER behind " + n, c.state(0, 0, 0, n, 21), resigned ? temper : n);
            }
            Check.due("all deeds can be", c.stop(0, 0, 0), 40);
        }
        WindCabinet c = Check.of(TWO + Check.ministers("1 0 1 0", "1 0 2 0", "1 0 1 0", "1 27 1 0", "1 0 2 0"), "",
                "move 0 1 0 0; move 0 1 0 0; move 0 1 0 0;");
        int[] there = {63, 0x35, 0x11, 0x11};
        for (int n = 0; n <= 3; n++) {
            Check.due("several at once, there behind " + n, c.state(0, 0, 0, n, 2), there[n]);
            Check.due("several at once, resigned behind " + n, c.state(0, 0, 0, n, 3), 63 ^ there[n]);
        }
    }

    /** "those who are there and agree", "nobody who is there has a VETO": who is not there counts for neither */
    private static void whoIsNotThere() {
        WindCabinet c = Check.of(Check.ministers("5 0 0 0", "5 0 9 0") + "quota 10;", "",
                "move 0 0 0 0; dismiss 1; move 0 0 0 0; recall 1;"
                + "move 0 0 0 0;");
        int[] committees = {0, 0, 0, 1, 1, 1};
        for (int n = 0; n <= 5; n++) {
            Check.due("votes of who is not there, behind " + n, c.state(0, 0, 0, n, 7), committees[n]);
        }
        c = Check.of(Check.ministers("5 0 0 0", "5 0 9 0") + "quota 5; veto 1;", "",
                "move 0 1 0 0; dismiss 1; move 0 2 0 0; recall 1;"
                + "move 0 3 0 0;");
        int[] latest = {-1, 100, 100, 200, 200, 100};
        for (int n = 0; n <= 5; n++) {
            Check.due("a veto of who is not there, behind " + n, c.state(0, 0, 0, n, 9), latest[n]);
        }
        c = Check.of(Check.ministers("5 0 0 0", "5 0 9 0") + "quota 5;", "",
                "move 0 1 0 0; dismiss 1; move 0 1 0 0; move 0 0 0 0;");
        Check.due("dismissed, not resigned", c.state(0, 0, 0, 4, 3), 0);
        Check.due("who is not there is not angry anew", c.state(0, 0, 0, 3, 21), 1);
        Check.due("nor does he cease to be", c.state(0, 0, 0, 4, 21), 1);
    }

    /** "recall: who is not is there, ANGER 0"; "who RESIGNED (bits; also if recalled)" */
    private static void recalled() {
        WindCabinet c = Check.of(TWO + Check.ministers("1 0 2 0", "1 0 0 0"), "",
                "move 0 1 0 0; dismiss 1; recall 1; move 0 1 0 0;"
                + "move 0 1 0 0; recall 1; move 0 1 0 0; dismiss 2; recall 2;");
        int[] there = {7, 7, 5, 7, 7, 5, 7, 7, 3, 7};
        int[] resigned = {0, 0, 0, 0, 0, 2, 2, 2, 2, 2};
        for (int n = 0; n <= 9; n++) {
            Check.due("there behind " + n, c.state(0, 0, 0, n, 2), there[n]);
            Check.due("resigned behind " + n, c.state(0, 0, 0, n, 3), resigned[n]);
        }
        int[][] anger = {{3, 0}, {4, 1}, {6, 0}, {7, 1}};
        for (int[] of : anger) {
            Check.due("ANGER behind " + of[0], c.state(0, 0, 0, of[0], 21), of[1]);
        }
        Check.due("the other one's goes on", c.state(0, 0, 0, 7, 22), 4);
        Check.due("recalled, without it", c.state(0, 0, 0, 9, 22), 0);
    }

    /** "office: who is there has that OFFICE" */
    private static void offices() {
        WindCabinet c = Check.of("minister 9 0 0 0;".repeat(6) + "office wind 3;", "",
                "office rain 5; office wind 0; office sun 4;"
                + "office sun 5; dismiss 5;");
        int[][] due = {{0, 3, 0}, {5, 3, 0}, {5, 0, 0}, {5, 0, 4}, {5, 0, 5}, {5, 0, 5}};
        for (int n = 0; n <= 5; n++) {
            for (int kind = 0; kind < 3; kind++) {
                Check.due("office " + kind + " behind " + n, c.state(0, 0, 0, n, 10 + kind), due[n][kind]);
            }
            Check.due("no days", c.state(0, 0, 0, n, 0), 0);
        }
        Check.due("of the republic as told", c.republic(0, 11), 3);
    }

    /** "season: it is that" */
    private static void seasons() {
        WindCabinet c = Check.of(TWO + "minister 1 0 9 0; want 1 winter 5 0 0;", "",
                "season winter; move 0 5 0 0; season summer;"
                + "move 0 5 0 0; season autumn; season spring; move 0 0 0 0;");
        int[] due = {0, 3, 3, 1, 1, 2, 0, 0};
        int[] anger = {0, 0, 0, 0, 1, 1, 1, 0};
        for (int n = 0; n <= 7; n++) {
            Check.due("season behind " + n, c.state(0, 0, 0, n, 1), due[n]);
            Check.due("wants of that season behind " + n, c.state(0, 0, 0, n, 21), anger[n]);
        }
        Check.due("a season is no day", c.state(0, 0, 0, 7, 0), 3);
    }

    /** "FALLEN: those who are there have fewer VOTES than QUOTA" */
    private static void fallen() {
        WindCabinet c = Check.of(Check.ministers("4 0 0 0", "5 0 0 0", "1 0 0 0") + "quota 9;", "",
                "dismiss 2; dismiss 0; recall 2; recall 0;"
                + "dismiss 1; dismiss 0; dismiss 2;");
        int[] due = {0, 0, 1, 1, 0, 1, 1, 1};
        for (int n = 0; n <= 7; n++) {
            Check.due("behind " + n, c.state(0, 0, 0, n, 8), due[n]);
        }
        Check.due("nobody, of a quota of 1", Check.of("quota 1;", "", "").state(0, 0, 0, 0, 8), 1);
    }

    /** "9: the latest DAY (a number, the first figure RAIN; NONE)" */
    private static void latestDay() {
        WindCabinet c = Check.of(ALONE, "", "season winter; move 0 0 0 7; move 0 0 3 0; move 0 1 2 3; move 0 0 0 0;"
                + "pass; dismiss 0;");
        int[] due = {-1, -1, 7, 30, 123, 0, 100, 100};
        int[] days = {0, 0, 1, 2, 3, 4, 5, 5};
        for (int n = 0; n <= 7; n++) {
            Check.due("the latest behind " + n, c.state(0, 0, 0, n, 9), due[n]);
            Check.due("days behind " + n, c.state(0, 0, 0, n, 0), days[n]);
        }
    }

    // ---- promise 14

    /** "A STATE is behind the first n DEEDS, n up to STOP." */
    private static void stateUpToStop() {
        WindCabinet c = Check.of(ALONE, "", "pass; pass; recall 0; pass;");
        for (int n = 0; n <= 2; n++) {
            Check.due("behind " + n, c.state(0, 0, 0, n, 0), n);
        }
        for (int n : Check.andWild(-1, -2, 3, 4, 5)) {
            Check.due("no such state " + n, c.state(0, 0, 0, n, 0), -2);
        }
        c = Check.of(ALONE, "", "");
        Check.due("of no deeds", c.state(0, 0, 0, 0, 0), 0);
        Check.due("of no deeds", c.state(0, 0, 0, 1, 0), -2);
        c = Check.of(ALONE, "", "pass;".repeat(40));
        Check.due("behind 40", c.state(0, 0, 0, 40, 0), 40);
        Check.due("behind 41", c.state(0, 0, 0, 41, 0), -2);
        c = Check.of(ALONE, "", "recall 0;");
        Check.due("the first can't be", c.state(0, 0, 0, 0, 0), 0);
        Check.due("the first can't be", c.state(0, 0, 0, 1, 0), -2);
    }

    /** "-2: there is no such STATE, or for another what." */
    private static void stateRefused() {
        WindCabinet c = Check.of("minister 9 0 0 0;".repeat(3), "", "pass;");
        int[] others = Check.andWild(-1, -2, -3, 13, 14, 18, 19, 23, 24, 25, 26);
        for (int what : new int[] {0, 12, 20, 22}) {
            Check.refused("state", -2, n -> c.state(n[0], n[1], n[2], n[3], n[4]), new int[] {0, 0, 0, 1, what},
                    NO_SECOND, NO_SECOND, NO_SECOND, Check.andWild(-1, 2, 3), others);
        }
        WindCabinet six = Check.of("minister 9 0 0 0;".repeat(6), "", "pass;");
        Check.due("ANGER of the sixth", six.state(0, 0, 0, 1, 25), 0);
        Check.due("ANGER of a seventh", six.state(0, 0, 0, 1, 26), -2);
        Check.due("ANGER of nobody", Check.of("", "", "").state(0, 0, 0, 0, 20), -2);
    }

    /** A state is told behind its own deeds alone, whatever was asked ahead of it. */
    private static void stateLeavesNothing() {
        WindCabinet c = Check.of(TWO + "minister 1 0 2 0;", "",
                "season winter; office sun 1; move 0 1 2 3; move 0 1 2 3; recall 1;");
        Check.told(c, 0, "quota 3;");
        for (int round = 0; round < 2; round++) {
            states("at the end", c, 5, 2, 3, 3, 2, 54, 46, 22, 0, 0, 123, 0, 0, 1);
            c.drawn(0, 99, 60, 0);
            states("at the start", c, 0, 0, 0, 3, 0, 50, 50, 20, 0, 0, -1, 0, 0, 0);
            Check.due("no ANGER at the start", c.state(0, 0, 0, 0, 21), 0);
            Check.due("ANGER behind three", c.state(0, 0, 0, 3, 21), 1);
            Check.due("of the other republic", c.state(1, 0, 0, 1, 2), 0);
            Check.due("of the other republic", c.stop(1, 0, 0), 1);
        }
    }
}

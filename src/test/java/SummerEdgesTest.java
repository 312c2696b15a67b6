/**
 * Terms 4 and promises 21 to 27, sentence by sentence: what just may be and what just may not, all and none, ties,
 * numbers that wrap around, and calls that are refused. Each block's first words are the document's own.
 */
public final class SummerEdgesTest {
    private static final int NONE = WindCabinet.NONE;
    private static final int[] SEASONS = Check.andWild(-1, -2, 4, 5);
    private static final int[] NO_SECOND = Check.andWild(-1, -2, 1, 2);
    private static final int[] NO_THIRD_MINISTER = Check.andWild(-1, -2, 2, 3, 5, 6);
    private static final String[] NAMES = {"spring", "summer", "autumn", "winter"};
    private static final String ONE = "minister 1 0 0 0;";

    private SummerEdgesTest() {
    }

    public static void main(String[] args) {
        wasAsTold();
        wasRefused();
        wrongByRain();
        wrongByHeat();
        wrongDayByDay();
        mendedAllAndNothing();
        mendedByNone();
        mendedFirstWay();
        natureRefused();
        seatsOfFew();
        seatsOfSix();
        seatsOfDays();
        seatsThatTell();
        seatsRefused();
        reshuffleOfFew();
        reshuffleSeasons();
        reshufflePasses();
        reshuffleRefused();
        leakAsTold();
        leakRefused();
        fitsWithoutLeaks();
        fitsByLeaks();
        fitsLikely();
        fitsLies();
        fitsNotThere();
        fitsRefused();
        drawnDays();
        drawnNumbers();
        drawnSeasons();
        drawnByNobody();
        drawnRows();
        drawnRefused();
        Check.finish();
    }

    private static WindCabinet summer(String republic, String summer) {
        return Check.of(republic, "", "", "", summer);
    }

    // ---- promise 21

    /** "of DAY k, what 0: SEASON, 1, 2, 3: RAIN, WIND, SUN"; "DAYS, at most 8, from 0 on" */
    private static void wasAsTold() {
        WindCabinet c = summer("", "was spring 0 0 0; was summer 9 9 9; was autumn 1 2 3; was winter 0 9 0;"
                + "was spring 0 0 0;".repeat(3) + "was winter 7 8 9;");
        int[][] due = {{0, 0, 0, 0}, {1, 9, 9, 9}, {2, 1, 2, 3}, {3, 0, 9, 0}, {0, 0, 0, 0}, {0, 0, 0, 0},
            {0, 0, 0, 0},
            {3, 7, 8, 9}};
        Check.due("how many", c.was(0, NONE, 0), 8);
        for (int k = 0; k < 8; k++) {
            for (int what = 0; what < 4; what++) {
                Check.due("day " + k + "'s " + what, c.was(0, k, what), due[k][what]);
            }
        }
        Check.told(c, 4, "was winter 1 1 1;");
        Check.due("of the second summer", c.was(1, NONE, 0), 1);
        Check.due("of the second summer", c.was(1, 0, 0), 3);
    }

    /** "-2: there is none such (of either), or for another what." */
    private static void wasRefused() {
        WindCabinet c = summer("", "was winter 7 8 9; was winter 7 8 9;");
        Check.refused("was", -2, n -> c.was(n[0], n[1], n[2]), new int[] {0, 1, 3}, NO_SECOND,
                Check.andWild(-2, -3, 2, 3, 7, 8), Check.andWild(-1, -2, 4, 5));
        Check.refused("was", -2, n -> c.was(n[0], n[1], n[2]), new int[] {0, NONE, 0}, NO_SECOND, new int[] {},
                Check.andWild(-1, -2, 1, 2, 3, 4));
    }

    // ---- promise 22

    private static void nature(WindCabinet c, int wrong, int mended, int... rain) {
        Check.due("WRONG", c.nature(0, 0, 0), wrong);
        Check.due("MENDED", c.nature(0, 0, 1), mended);
        for (int k = 0; k < rain.length; k++) {
            Check.due("RAIN of day " + k + " then", c.nature(0, 0, 10 + k), rain[k]);
        }
        Check.due("no day behind the last", c.nature(0, 0, 10 + rain.length), -2);
    }

    /** "WRONG: the first one that nature can't" */
    private static void wrongByRain() {
        for (int cloud : new int[] {0, 1, 5, 8, 9, 99}) {
            for (int rain = 0; rain < 10; rain++) {
                WindCabinet c = summer("cloud " + cloud + "; ground 99;", "was winter " + rain + " 0 9;");
                int left = Math.min(rain, cloud);
                nature(c, rain > cloud ? 0 : NONE, rain - left, left);
            }
        }
    }

    private static void wrongByHeat() {
        for (int heat : new int[] {0, 5, 9, 90, 94, 99}) {
            for (int much = 0; much < 10; much++) {
                boolean warm = heat + much <= 99;
                boolean cold = heat - much >= 0;
                String republic = "heat " + heat + ";";
                Check.due("heat " + heat + ", sun " + much, summer(republic,
                        "was winter 0 0 " + much + ";").nature(0, 0, 0),
                        warm ? NONE : 0);
                Check.due("no less rain helps", summer(republic, "was winter 9 0 " + much + ";").nature(0, 0, 1),
                        warm ? 0 : NONE);
                Check.due("heat " + heat + ", wind " + much, summer(republic,
                        "was winter 0 " + much + " 0;").nature(0, 0, 0),
                        cold ? NONE : 0);
                Check.due("no less rain helps", summer(republic, "was winter 9 " + much + " 0;").nature(0, 0, 1),
                        cold ? 0 : NONE);
            }
        }
    }

    /** "DAY by DAY from CLOUD, GROUND, HEAT as told" */
    private static void wrongDayByDay() {
        String day = "was spring 1 0 0;";
        nature(summer("cloud 8;", day.repeat(8)), NONE, 0, 1, 1, 1, 1, 1, 1, 1, 1);
        nature(summer("cloud 7;", day.repeat(8)), 7, 1, 1, 1, 1, 1, 1, 1, 1, 0);
        nature(summer("cloud 0; ground 0;", day.repeat(8)), 0, 8, 0, 0, 0, 0, 0, 0, 0, 0);
        nature(summer("cloud 5; ground 0; heat 98;", "was spring 5 0 1; was summer 1 1 0; was winter 1 0 0;"), 2, 1,
                5, 1, 0);
        nature(summer("cloud 5; ground 9; heat 98;", "was spring 5 0 1; was summer 1 1 0; was winter 1 0 0;"), 2, 1,
                5, 1, 0);
        nature(summer("cloud 5; ground 9; heat 97;", "was spring 5 0 2; was summer 1 1 0; was winter 1 0 0;"), NONE,
                0, 5, 1, 1);
        nature(summer("heat 98;", "was spring 0 0 1; was summer 0 1 1; was autumn 0 2 0; was winter 0 0 3;"), 3, NONE);
        WindCabinet c = summer("cloud 5;", "was spring 5 0 0;");
        Check.told(c, 0, "cloud 4;");
        Check.told(c, 4, "was spring 6 0 0;");
        Check.due("of each republic", c.nature(1, 0, 1), 1);
        Check.due("of each summer", c.nature(0, 1, 1), 1);
        Check.due("of both", c.nature(1, 1, 1), 2);
        Check.due("as ahead of these", c.nature(0, 0, 1), 0);
    }

    /** "the fewest units by which RAIN of its DAYS is to be less, all together" */
    private static void mendedAllAndNothing() {
        nature(summer("", ""), NONE, 0);
        nature(summer("cloud 0; ground 0;", "was winter 9 0 9;".repeat(8)), 0, 72, 0, 0, 0, 0, 0, 0, 0, 0);
        nature(summer("cloud 99;", "was winter 9 0 0;".repeat(8)), NONE, 0, 9, 9, 9, 9, 9, 9, 9, 9);
        nature(summer("cloud 9; ground 0; heat 9;", "was winter 9 0 9;".repeat(8)), NONE, 0, 9, 9, 9, 9, 9, 9, 9, 9);
    }

    /** "(none, if no less RAIN helps)"; "-2: .. (10 + k: also if by none)" */
    private static void mendedByNone() {
        nature(summer("cloud 0; heat 0;", "was winter 9 0 0; was winter 0 1 0; was winter 9 9 9;"), 0, NONE);
        nature(summer("cloud 9; heat 99;", "was winter 9 0 0; was winter 0 0 1;"), 1, NONE);
        WindCabinet c = summer("cloud 9; heat 99;", "was winter 9 0 0; was winter 0 0 1;");
        Check.due("of the day ahead of it", c.nature(0, 0, 10), -2);
        Check.due("of that day", c.nature(0, 0, 11), -2);
    }

    /** "of several ways the first by rows of what is left of RAIN, the greatest first" */
    private static void mendedFirstWay() {
        nature(summer("cloud 3;", "was spring 2 0 0; was spring 2 0 0; was spring 2 0 0;"), 1, 3, 2, 1, 0);
        nature(summer("cloud 3; ground 0;", "was spring 1 0 0; was spring 9 0 0; was spring 9 0 0;"), 1, 16, 1, 2, 0);
        nature(summer("cloud 3; ground 0;", "was spring 9 0 1; was spring 9 0 0;"), 0, 6 + 8, 3, 1);
        nature(summer("cloud 4; ground 0;", "was spring 3 0 1; was spring 3 0 0; was spring 2 0 0;"), 1, 3, 3, 2, 0);
        nature(summer("cloud 1; ground 9;", "was spring 2 0 9; was spring 9 0 0;"), 0, 1, 1, 9);
        nature(summer("cloud 2; ground 0;", "was spring 3 0 9; was spring 3 0 9; was spring 3 0 9;"), 0, 3, 2, 2, 2);
    }

    /** "-2: there is none such (of either), or for another what" */
    private static void natureRefused() {
        WindCabinet c = summer("cloud 1;", "was spring 2 0 0; was spring 0 0 0;");
        int[] others = Check.andWild(-1, -2, 2, 3, 8, 9, 12, 13, 17, 18, 50);
        for (int what : new int[] {0, 1, 10, 11}) {
            Check.refused("nature", -2, n -> c.nature(n[0], n[1], n[2]), new int[] {0, 0, what}, NO_SECOND,
                    NO_SECOND, others);
        }
    }

    // ---- promise 23

    private static void seats(WindCabinet c, int tells, int proposals, int... fit) {
        Check.due("how many FIT", c.seats(0, 0, NONE), fit.length);
        for (int k = 0; k < fit.length; k++) {
            Check.due("SEATS " + k, c.seats(0, 0, k), fit[k]);
        }
        Check.due("no SEATS behind the last", c.seats(0, 0, fit.length), -4);
        Check.due("TELLS", c.seats(0, 0, -2), tells);
        Check.due("its PROPOSALS", c.seats(0, 0, -3), proposals);
    }

    /** "rows of three MINISTERS, unlike ones"; "NONE: none FIT" */
    private static void seatsOfFew() {
        for (int size = 0; size <= 2; size++) {
            seats(summer(ONE.repeat(size), ""), NONE, 0);
        }
        seats(summer(ONE.repeat(3), ""), 0, 1, 8, 13, 38, 48, 73, 78);
        seats(summer(ONE.repeat(3), "was spring 0 0 1;"), NONE, 0);
    }

    /** "36 * the first's, 6 * the second's, the third's"; "the k-th by numbers" */
    private static void seatsOfSix() {
        int[] all = new int[120];
        int many = 0;
        StringBuilder republic = new StringBuilder(ONE.repeat(6));
        for (int a = 0; a < 6; a++) {
            republic.append("want ").append(a).append(" winter ").append(a + 1).append(' ').append(a + 2).append(' ')
                    .append(a + 3).append(';');
            for (int b = 0; b < 6; b++) {
                for (int c = 0; c < 6; c++) {
                    if (a != b && b != c && a != c) {
                        all[many] = 36 * a + 6 * b + c;
                        many++;
                    }
                }
            }
        }
        seats(summer(republic.toString(), ""), 3, 120, all);
        seats(summer(republic.toString(), "was winter 6 6 6;"), 0, 1, 36 * 5 + 6 * 4 + 3);
        seats(summer(republic.toString(), "was winter 1 3 5;"), 0, 1, 8);
        seats(summer(republic.toString(), "was winter 1 3 4;"), NONE, 0);
    }

    /** "each DAY of a SUMMER is the PROPOSAL of its SEASON" */
    private static void seatsOfDays() {
        String republic = ONE.repeat(3) + "want 0 spring 1 2 3; want 1 spring 4 5 6; want 2 spring 7 8 9;"
                + "want 0 autumn 9 0 0;";
        String day = "was spring 4 2 9;";
        seats(summer(republic, day), 0, 1, 38);
        seats(summer(republic, day.repeat(8)), 0, 1, 38);
        seats(summer(republic, day.repeat(7) + "was spring 4 2 8;"), NONE, 0);
        seats(summer(republic, "was spring 4 3 9;" + day.repeat(7)), NONE, 0);
        seats(summer(republic, day + "was spring 1 5 9;"), NONE, 0);
        seats(summer(republic, day + "was autumn 0 0 0;"), 0, 1, 38);
        seats(summer(republic, "was autumn 9 0 0;"), 0, 2, 8, 13);
        seats(summer(republic, "was summer 0 0 0; was winter 0 0 0;"), 0, 6, 8, 13, 38, 48, 73, 78);
        // A day whose season has other wants than the one that would be like it.
        seats(summer(republic, "was winter 4 2 9;"), NONE, 0);
        seats(summer(ONE.repeat(3) + "want 0 spring 1 0 0; want 1 spring 1 0 0; want 2 spring 1 1 1;",
                "was spring 1 0 1;"),
                0, 1, 8, 38);
        seats(summer(ONE.repeat(3) + "want 0 spring 1 0 0; want 1 spring 1 0 0; want 2 spring 1 1 1;",
                "was spring 1 1 0;"),
                0, 1, 13, 48);
    }

    /** "TELLS: the SEASON whose PROPOSALS by all SEATS that FIT are most unlike ..; of several the least" */
    private static void seatsThatTell() {
        for (int s = 0; s < 4; s++) {
            Check.due("one season differs", summer(ONE.repeat(3) + "want 2 " + NAMES[s] + " 1 0 0;", "").seats(0, 0,
                    -2), s);
            Check.due("by two", summer(ONE.repeat(3) + "want 2 " + NAMES[s] + " 1 0 0;", "").seats(0, 0, -3), 2);
            for (int t = s + 1; t < 4; t++) {
                String two = ONE.repeat(3) + "want 2 " + NAMES[t] + " 1 0 0; want 1 " + NAMES[s];
                Check.due("of two the least", summer(two + " 0 9 0;", "").seats(0, 0, -2), s);
                Check.due("of two the least", summer(two + " 0 9 0;", "").seats(0, 0, -3), 2);
                Check.due("the one of more", summer(two + " 0 9 9;", "").seats(0, 0, -2), s);
                // Wind's, sun's or neither's by the second: three, as he can't have both.
                Check.due("the one of more", summer(two + " 0 9 9;", "").seats(0, 0, -3), 3);
                two = ONE.repeat(3) + "want 2 " + NAMES[s] + " 1 0 0; want 1 " + NAMES[t];
                Check.due("the later one of more", summer(two + " 0 9 9;", "").seats(0, 0, -2), t);
            }
        }
        // Only the SEATS that fit count: sun's is the third's, and of the two that are left rain's tells in summer.
        WindCabinet c = summer(ONE.repeat(3) + "want 2 spring 0 0 7; want 0 summer 3 0 0; want 2 winter 4 5 6;",
                "was spring 0 0 7;");
        seats(c, 1, 2, 8, 38);
    }

    /** "-4: there is none such (of any)." */
    private static void seatsRefused() {
        WindCabinet c = summer(ONE.repeat(3), "");
        int[] others = Check.andWild(-4, -5, 6, 7, 120);
        for (int what : new int[] {0, 5, NONE, -2, -3}) {
            Check.refused("seats", -4, n -> c.seats(n[0], n[1], n[2]), new int[] {0, 0, what}, NO_SECOND, NO_SECOND,
                    others);
        }
    }

    // ---- promise 24

    private static void reshuffle(String republic, int seats, int many) {
        WindCabinet c = Check.of(republic);
        Check.due("RESHUFFLE of " + republic, c.reshuffle(0, false), seats);
        Check.due("in how many of " + republic, c.reshuffle(0, true), many);
    }

    /** "NONE: fewer than 3 MINISTERS" */
    private static void reshuffleOfFew() {
        reshuffle("", NONE, NONE);
        reshuffle(ONE + "want 0 spring 1 0 0; quota 1;", NONE, NONE);
        reshuffle(ONE + ONE + "want 0 spring 1 0 0; quota 1;", NONE, NONE);
        reshuffle(ONE.repeat(3) + "want 0 spring 1 0 0; quota 1;", 8, 1);
        reshuffle(ONE.repeat(3) + "quota 1;", 8, 0);
        reshuffle(ONE.repeat(6) + "quota 1; want 5 autumn 1 0 0;", 36 * 5 + 1, 1);
    }

    /** "by which most SEASONS have RAIN in their PROPOSAL"; "of several the least; in how many" */
    private static void reshuffleSeasons() {
        StringBuilder republic = new StringBuilder(ONE.repeat(3) + "quota 1;");
        for (int s = 0; s < 4; s++) {
            republic.append("want 1 ").append(NAMES[s]).append(" 1 0 0;");
            reshuffle(republic.toString(), 38, s + 1);
            reshuffle(republic + "want 2 winter 9 0 0;", 38, s + 1);
            reshuffle(republic + "want 2 winter 9 0 0; want 2 autumn 9 0 0;", s == 0 ? 73 : 38, Math.max(s + 1, 2));
        }
        reshuffle(ONE.repeat(3) + "quota 1; want 2 spring 0 9 9;", 8, 0);
    }

    /** "that PASS (moved by who has RAIN's OFFICE, orders aside)" */
    private static void reshufflePasses() {
        // Whoever has rain's office moves 1 0 0 in spring, which needs the third's votes.
        String three = Check.ministers("1 0 0 0", "1 0 0 0", "9 0 0 0") + "want 0 spring 1 0 0; want 1 spring 1 0 0;";
        reshuffle(three + "quota 9;", 8, 0);
        reshuffle(three + "quota 9; want 2 spring 1 0 0;", 8, 1);
        reshuffle(three + "quota 9; want 2 spring 1 1 0;", 13, 1);
        reshuffle(three + "quota 2;", 8, 1);
        reshuffle(three + "quota 2; feud 0 1;", 8, 0);
        reshuffle(three + "quota 1; feud 0 1;", 8, 1);
        reshuffle(three + "quota 1; veto 2;", 8, 0);
        reshuffle(three + "quota 1; veto 2; want 2 spring 9 0 0;", 73, 1);
        reshuffle(three + "quota 10; want 2 spring 1 0 0; feud 0 2;", 38, 1);
        // Only as the mover does the last one agree to what others want of wind and sun.
        String six = ONE.repeat(5) + "minister 9 0 0 0; want 5 spring 1 0 0; quota 9;";
        for (int m = 0; m < 5; m++) {
            six += "want " + m + " spring 0 5 5;";
        }
        reshuffle(six, 36 * 5 + 1, 1);
        // The last one wants 0 7 7 and yields to 1 7 7, which only the second moves and votes for, and the fifth has its sun.
        reshuffle("minister 1 0 0 0; minister 9 0 0 0;" + ONE.repeat(3) + "minister 1 1 0 0; quota 10; veto 5;"
                + "want 1 spring 1 0 0; want 4 spring 0 0 7; want 5 spring 0 7 7;", 36 + 30 + 4, 1);
        // Nature is not asked.
        reshuffle(three + "quota 2; cloud 0;", 8, 1);
        WindCabinet c = Check.of(three + "quota 2;", "sum 0;");
        Check.due("orders aside", c.reshuffle(0, true), 1);
    }

    /** "NONE: .. or there is none such" */
    private static void reshuffleRefused() {
        WindCabinet c = Check.of(ONE.repeat(3));
        Check.refused("reshuffle", NONE, n -> c.reshuffle(n[0], false), new int[] {0}, NO_SECOND);
        Check.refused("reshuffle", NONE, n -> c.reshuffle(n[0], true), new int[] {0}, NO_SECOND);
    }

    // ---- promise 25

    private static WindCabinet leaks(String republic, String leaks) {
        return Check.of(republic, "", "", leaks);
    }

    /** "How many LEAKS .. of LEAK k, what 0: who, 1: 1 yes, 0 no." */
    private static void leakAsTold() {
        WindCabinet c = leaks("", "said 0 yes; said 0 no; said 5 yes; said 5 no; said 1 no; said 1 no; said 1 no;"
                + "said 4 yes;");
        int[][] due = {{0, 1}, {0, 0}, {5, 1}, {5, 0}, {1, 0}, {1, 0}, {1, 0}, {4, 1}};
        Check.due("how many", c.leak(0, NONE, 0), 8);
        for (int k = 0; k < 8; k++) {
            Check.due("who " + k, c.leak(0, k, 0), due[k][0]);
            Check.due("what " + k, c.leak(0, k, 1), due[k][1]);
        }
    }

    /** "-2: there is none such (of either), or for another what." */
    private static void leakRefused() {
        WindCabinet c = leaks("", "said 1 yes; said 1 yes;");
        Check.refused("leak", -2, n -> c.leak(n[0], n[1], n[2]), new int[] {0, 1, 1}, NO_SECOND,
                Check.andWild(-2, -3, 2, 3, 7, 8), Check.andWild(-1, -2, 2, 3, 4));
        Check.refused("leaks", -2, n -> c.leak(n[0], n[1], n[2]), new int[] {0, NONE, 0}, NO_SECOND, new int[] {},
                Check.andWild(-1, -2, 1, 2, 3));
    }

    // ---- promise 26

    /** What 0, 1, 2, 3, 10, 11, 12, 20, 21, 22. */
    private static void fits(String call, WindCabinet c, int by, int season, int... due) {
        int[] whats = {0, 1, 2, 3, 10, 11, 12, 20, 21, 22};
        for (int i = 0; i < due.length; i++) {
            Check.due(call + ", " + whats[i], c.fits(0, 0, by, season, whats[i]), due[i]);
        }
    }

    /** "DAYS, of all 1000": without leaks all of them */
    private static void fitsWithoutLeaks() {
        WindCabinet c = leaks(ONE, "");
        for (int season = 0; season < 4; season++) {
            fits("no leaks", c, 0, season, 1000, 9, 10, 0, 0, 0, 0, 9, 9, 9);
        }
    }

    /** "to which each MINISTER who said yes agrees, who said no does not"; "of a KIND the least, the most" */
    private static void fitsByLeaks() {
        String two = Check.ministers("1 0 0 0", "1 1 0 0") + "want 1 spring 2 4 6; want 1 summer 9 0 9; feud 0 1;"
                + "spite 1;";
        fits("the one day", leaks(two, "said 1 yes;"), 0, 0, 1, 1, 1, 0, 2, 4, 6, 2, 4, 6);
        fits("in summer", leaks(two, "said 1 yes;"), 0, 1, 1, 1, 1, 0, 9, 0, 9, 9, 0, 9);
        fits("all but one", leaks(two, "said 1 no;"), 0, 0, 999, 899, 999, 0, 0, 0, 0, 9, 9, 9);
        two = Check.ministers("1 0 0 0", "1 1 0 0") + "want 1 spring 2 4 6; want 1 summer 9 0 9;";
        fits("seven days", leaks(two, "said 1 yes;"), 0, 0, 7, 1, 1, 0, 1, 3, 5, 3, 5, 7);
        fits("four days", leaks(two, "said 1 yes;"), 0, 1, 4, 1, 1, 0, 8, 0, 8, 9, 1, 9);
        fits("his own", leaks(two, "said 1 yes;"), 1, 0, 1000, 9, 10, 0, 0, 0, 0, 9, 9, 9);
        fits("his own, and the first says no", leaks(two, "said 1 yes; said 0 no;"), 1, 0, 999, 100, 111, 0, 0, 0,
                0, 9, 9, 9);
        String three = Check.ministers("1 0 0 0", "1 2 0 0", "1 1 0 0") + "want 1 winter 5 5 5; want 2 winter 5 5 5;";
        // Of 25 days off by 2 or less 7 are off by 1 or less.
        fits("both", leaks(three, "said 1 yes; said 2 yes;"), 0, 3, 7, 1, 1, 0, 4, 4, 4, 6, 6, 6);
        fits("one of them", leaks(three, "said 1 yes; said 2 no;"), 0, 3, 18, 1, 1, 0, 3, 3, 3, 7, 7, 7);
        fits("the same, told eight times", leaks(three, "said 1 yes; said 2 no;".repeat(4)), 0, 3, 18, 1, 1, 0, 3,
                3, 3, 7, 7, 7);
        fits("neither", leaks(three, "said 1 no; said 2 no;"), 0, 3, 975, 35, 39, 0, 0, 0, 0, 9, 9, 9);
    }

    /** "how likely it has RAIN, each DAY as likely: a fraction in least terms"; "(NONE: no DAY)" */
    private static void fitsLikely() {
        String two = Check.ministers("1 0 0 0", "1 0 0 0", "1 1 0 0");
        fits("never", leaks(two, "said 1 yes;"), 0, 0, 1, 0, 1, 0, 0, 0, 0, 0, 0, 0);
        fits("one of four", leaks(two, "said 2 yes;"), 0, 0, 4, 1, 4, 0, 0, 0, 0, 1, 1, 1);
        fits("one of three", leaks(two, "said 2 yes; said 1 no;"), 0, 0, 3, 1, 3, 0, 0, 0, 0, 1, 1, 1);
        two = ONE + "minister 1 1 0 0; want 1 spring 1 0 0; want 1 summer 0 1 0; want 1 autumn 0 0 1;";
        fits("four of five", leaks(two, "said 1 yes;"), 0, 0, 5, 4, 5, 0, 0, 0, 0, 2, 1, 1);
        fits("one of five, by wind", leaks(two, "said 1 yes;"), 0, 1, 5, 1, 5, 0, 0, 0, 0, 1, 2, 1);
        fits("one of five, by sun", leaks(two, "said 1 yes;"), 0, 2, 5, 1, 5, 0, 0, 0, 0, 1, 1, 2);
        two = Check.ministers("1 0 0 0", "1 0 0 0", "1 1 0 0");
        fits("no day", leaks(two, "said 1 yes; said 2 no;"), 0, 0, 0, NONE, NONE, 3, NONE, NONE, NONE, NONE, NONE,
                NONE);
    }

    /** "LIES: LEAKS (bits) without each of which alone some DAY fits, while by all none does" */
    private static void fitsLies() {
        String three = Check.ministers("1 0 0 0", "1 0 0 0", "1 0 0 0");
        String[] told = {"said 0 no;", "said 0 yes;", "said 1 yes; said 1 no;", "said 1 yes; said 1 no; said 1 no;",
            "said 1 no; said 1 yes; said 1 no; said 1 yes;", "said 1 yes;".repeat(7) + "said 1 no;",
            "said 1 no;" + "said 1 yes;".repeat(7), "said 1 no;".repeat(3) + "said 1 yes;" + "said 1 no;".repeat(4),
            "said 1 yes; said 2 no;", "said 0 no; said 0 no;", "said 0 no; said 1 no; said 1 yes;",
            "said 0 yes; said 0 no; said 1 yes; said 2 yes;"};
        int[] due = {1, 0, 3, 1, 0, 128, 1, 8, 3, 0, 0, 2};
        for (int i = 0; i < told.length; i++) {
            Check.due("LIES of " + told[i], leaks(three, told[i]).fits(0, 0, 0, 0, 3), due[i]);
        }
        // He agrees to each of the 1000 days, though not to one of more than 9 units.
        String yielding = ONE + "minister 1 27 0 0; want 1 spring 0 9 9;";
        Check.due("of all 1000 days alone", leaks(yielding, "said 1 no; said 0 no;").fits(0, 0, 0, 0, 3), 0);
    }

    /** "-2: one told of is not there" */
    private static void fitsNotThere() {
        for (int size = 1; size <= 6; size++) {
            for (int m = 0; m < 6; m++) {
                WindCabinet c = leaks(ONE.repeat(size), "said 0 yes; said " + m + " yes;");
                for (int what : new int[] {0, 1, 2, 3, 10, 22}) {
                    Check.due("told of " + m + " of " + size, c.fits(0, 0, 0, 0, what) == -2, m >= size);
                }
                c = leaks(ONE.repeat(size), "said " + m + " no; said 0 yes;");
                Check.due("told of " + m + " of " + size, c.fits(0, 0, 0, 0, 0) == -2, m >= size);
            }
        }
    }

    /** "there is none such (of any), or for another what" */
    private static void fitsRefused() {
        WindCabinet c = leaks(ONE + ONE, "said 0 yes;");
        int[] others = Check.andWild(-1, -2, 4, 5, 8, 9, 13, 14, 19, 23, 24, 30);
        for (int what : new int[] {0, 1, 2, 3, 10, 12, 20, 22}) {
            Check.refused("fits", -2, n -> c.fits(n[0], n[1], n[2], n[3], n[4]), new int[] {0, 0, 1, 3, what},
                    NO_SECOND, NO_SECOND,
                    NO_THIRD_MINISTER, SEASONS, others);
        }
    }

    // ---- promise 27

    private static final String ALONE = "minister 9 27 0 0; quota 9;";

    private static void drawn(WindCabinet c, int seed, int n, int... due) {
        for (int what = 0; what < due.length; what++) {
            Check.due("seed " + seed + ", " + n + " days, " + what, c.drawn(0, seed, n, what), due[what]);
        }
    }

    /** "n days, 0 .. 60" */
    private static void drawnDays() {
        WindCabinet c = Check.of(ALONE + "cloud 20; ground 0; heat 50;");
        // From seed 0 the days are 6 6 5, 5 5 9, 0 9 2, ..
        int[][] due = {{20, 0, 50, 1, 0, 0, 0}, {19, 1, 49, 1, 0, 6, 0}, {20, 0, 53, 1, 0, 11, 0},
            {20, 0, 46, 1, 0, 11, 1},
            {17, 3, 44, 1, 0, 19, 1}, {17, 3, 45, 1, 0, 20, 1}};
        for (int n = 0; n < due.length; n++) {
            drawn(c, 0, n, due[n]);
        }
        drawn(Check.of(ALONE), 0, 60, 39, 61, 46, 1, 2, 270, 1);
        drawn(Check.of("minister 9 27 0 0; quota 10; cloud 99;"), 0, 60, 39, 110, 20, 1, 60, 60, 0);
    }

    /** "x becomes x * 1103515245 + 12345 (of 32 bits), it is x shifted right by 16 without sign" */
    private static void drawnNumbers() {
        WindCabinet c = Check.of(ALONE);
        int[] seeds = {0, 1, -1, Integer.MAX_VALUE, Integer.MIN_VALUE, 12345, 0xdeadbeef};
        int[][] first = {{49, 51, 19, 1, 0, 6, 0}, {47, 53, 20, 1, 0, 6, 0}, {47, 53, 24, 1, 0, 9, 0},
            {51, 49, 28, 1, 0, 7, 0},
            {49, 51, 19, 1, 0, 8, 0}, {52, 48, 23, 1, 0, 6, 0}, {54, 46, 21, 1, 0, 1, 0}};
        int[][] all = {{39, 61, 46, 1, 2, 270, 1}, {36, 64, 14, 1, 2, 269, 2}, {64, 36, 14, 1, 1, 232, 2},
            {100, 0, 65, 1, 0, 269, 1}, {45, 55, 18, 1, 0, 275, 1}, {86, 14, 50, 1, 0, 246, 1},
            {23, 77, 20, 1, 7, 261, 3}};
        for (int i = 0; i < seeds.length; i++) {
            drawn(c, seeds[i], 1, first[i]);
            drawn(c, seeds[i], 60, all[i]);
        }
    }

    /** "the SEASON is day / 5 (cut), remainder by 4" */
    private static void drawnSeasons() {
        String two = Check.ministers("9 27 0 0", "1 15 1 0") + "quota 9;";
        // The second agrees to all in three seasons, so that the days of the fourth are those that he may resign on.
        int[][] due = {{1, 5, 27}, {2, 10, 1}, {3, 15, 10}, {0, 20, 85}};
        for (int[] of : due) {
            WindCabinet c = Check.of(two + wants(of[0]));
            Check.due("there ahead of season " + of[0], c.drawn(0, of[2], of[1], 3), 3);
            Check.due("gone on its first day", c.drawn(0, of[2], of[1] + 1, 3), 1);
        }
        int[][] last = {{0, 5, 6}, {1, 10, 11}, {2, 15, 17}, {3, 20, 13}};
        for (int[] of : last) {
            WindCabinet c = Check.of(two + wants(of[0]));
            Check.due("still there behind season " + of[0], c.drawn(0, of[2], of[1] + 1, 3), 3);
        }
    }

    /** In all seasons but one he wants 5 5 5, from which no day is off by more than 15. */
    private static String wants(int butOne) {
        StringBuilder text = new StringBuilder();
        for (int s = 0; s < 4; s++) {
            if (s != butOne) {
                text.append("want 1 ").append(NAMES[s]).append(" 5 5 5;");
            }
        }
        return text.toString();
    }

    /** "(Nobody there: a COMMITTEE's, nothing drawn.)" */
    private static void drawnByNobody() {
        WindCabinet c = Check.of("cloud 59; ground 0; heat 99;");
        drawn(c, 5, 0, 59, 0, 99, 0, 0, 0, 0);
        drawn(c, 5, 1, 58, 1, 99, 0, 1, 1, 0);
        drawn(c, 5, 59, 0, 59, 99, 0, 59, 59, 0);
        drawn(c, 5, 60, 0, 59, 99, 0, 60, 59, 1);
        drawn(Check.of("cloud 0;"), 5, 60, 0, 50, 20, 0, 60, 0, 60);
    }

    /** "a number below how many are there: the one of them, by numbers, moves"; "else it is a COMMITTEE's" */
    private static void drawnRows() {
        WindCabinet c = Check.of("minister 1 0 1 0; minister 9 0 0 0; quota 9;");
        // The second one moves 1 4 5, the first resigns, the second, alone, moves 5 2 0 and 3 5 2.
        drawn(c, -559038737, 1, 54, 46, 21, 2, 0, 1, 0);
        drawn(c, -559038737, 3, 48, 52, 16, 2, 0, 9, 0);
        c = Check.of("minister 9 27 0 0; quota 9; cloud 5; ground 0; heat 50;");
        // 6 6 5 needs more than 5 of cloud; then 5 5 9 needs more than 4.
        drawn(c, 0, 1, 4, 1, 50, 1, 1, 1, 0);
        drawn(c, 0, 2, 3, 2, 50, 1, 2, 2, 0);
        drawn(c, 0, 3, 5, 0, 43, 1, 2, 2, 1);
        c = Check.of("minister 9 27 0 0; quota 9; heat 0;");
        drawn(c, 0, 1, 49, 51, 0, 1, 1, 1, 0);
        c = Check.of("minister 9 27 0 0; quota 9; heat 1;");
        drawn(c, 0, 1, 49, 51, 0, 1, 0, 6, 0);
    }

    /** "-2: there is none such, another n, or for another what." */
    private static void drawnRefused() {
        WindCabinet c = Check.of(ALONE);
        int[] others = Check.andWild(-1, -2, 7, 8, 10);
        for (int what : new int[] {0, 6}) {
            for (int days : new int[] {0, 60}) {
                Check.refused("drawn", -2, n -> c.drawn(n[0], n[1], n[2], n[3]), new int[] {0, 0, days, what},
                        NO_SECOND, new int[] {},
                        Check.andWild(-1, -2, 61, 62, 600), others);
            }
        }
    }
}

/**
 * Terms 3 and promises 15 to 20, sentence by sentence: what just may be and what just may not, all and none, ties,
 * and calls that are refused. Each block's first words are the document's own.
 */
public final class PowerEdgesTest {
    private static final int NONE = WindCabinet.NONE;
    private static final int[] AMOUNTS = Check.andWild(-1, -2, 10, 11);
    private static final int[] SEASONS = Check.andWild(-1, -2, 4, 5);
    private static final int[] NO_SECOND = Check.andWild(-1, -2, 1, 2);
    private static final int[] NO_THIRD_MINISTER = Check.andWild(-1, -2, 2, 3, 5, 6);

    private PowerEdgesTest() {
    }

    public static void main(String[] args) {
        agreedOfAll();
        agreedByNature();
        agreedUnderOrders();
        agreedByVotes();
        agreedBest();
        agreedRefused();
        powerOfOne();
        powerOfSix();
        powerOfFour();
        powerRefused();
        coalitionsOfSix();
        coalitionsOfFour();
        coalitionsOfNone();
        coalitionRefused();
        bribeOfNobody();
        bribeAboveYield();
        bribeOfSeveral();
        bribeOfVetoes();
        bribeByNone();
        bribeRefused();
        lobbyOfAll();
        lobbyOfOne();
        lobbyOfVeto();
        lobbyOfWhoDoesNot();
        lobbyOfOneMore();
        lobbyRefused();
        bargainShares();
        bargainLeavers();
        bargainRefused();
        Check.finish();
    }

    // ---- promise 15

    private static final String ALONE = "minister 9 0 0 0; quota 9;";

    private static void agreed(String call, WindCabinet c, int[] question, int... due) {
        for (int what = 0; what < 3; what++) {
            Check.due(call + ", " + what, c.agreed(0, question[0], question[1], question[2], what), due[what]);
        }
    }

    /** "of all 1000 DAYS"; "(NONE: none)" */
    private static void agreedOfAll() {
        WindCabinet c = Check.of(ALONE, "");
        for (int season = 0; season < 4; season++) {
            agreed("without orders", c, new int[] {NONE, 0, season}, 1000, 900, 9);
            agreed("under an empty row of them", c, new int[] {0, 0, season}, 1000, 900, 9);
        }
        c = Check.of("minister 9 0 0 0; quota 10;", "");
        agreed("none passes", c, new int[] {NONE, 0, 0}, 0, NONE, NONE);
    }

    /** "and that nature CAN" */
    private static void agreedByNature() {
        int[] clouds = {0, 1, 8, 9, 10, 99};
        for (int cloud : clouds) {
            WindCabinet c = Check.of(ALONE + "cloud " + cloud + ";");
            int most = Math.min(cloud, 9);
            agreed("cloud " + cloud, c, new int[] {NONE, 0, 0}, 100 * (most + 1), 100 * most, 9);
        }
        // Of 100 couples of wind and sun one is 9 and 0, 55 have as much wind as sun or more.
        int[][] heats = {{0, 550, 900, 9}, {8, 990, 900, 9}, {9, 1000, 900, 9}, {90, 1000, 900, 9}, {91, 990, 900, 19},
            {99, 550, 900, 99}};
        for (int[] heat : heats) {
            WindCabinet c = Check.of(ALONE + "heat " + heat[0] + ";");
            agreed("heat " + heat[0], c, new int[] {NONE, 0, 0}, heat[1], heat[2], heat[3]);
        }
    }

    /** "break none of some ORDERS (behind no day)", those of that SEASON, too */
    private static void agreedUnderOrders() {
        WindCabinet c = Check.of(ALONE, "after rain 0 rain 0; after sun 9 wind 0;");
        agreed("behind no day", c, new int[] {0, 0, 0}, 1000, 900, 9);
        Check.told(c, 1, "no rain above 1 in winter; no sun below 8; no wind above 6;");
        agreed("not in winter", c, new int[] {1, 0, 2}, 10 * 7 * 2, 908, 9);
        agreed("in winter", c, new int[] {1, 0, 3}, 2 * 7 * 2, 108, 9);
        Check.tell(c, 1, 0, "sum 0;");
        agreed("one day", c, new int[] {0, 0, 3}, 1, 0, 0);
        Check.tell(c, 1, 0, "sum 26;");
        agreed("but one", c, new int[] {0, 0, 3}, 999, 900, 9);
        Check.tell(c, 1, 0, "no rain above 4; no rain below 5;");
        agreed("none", c, new int[] {0, 0, 3}, 0, NONE, NONE);
    }

    /** "those that PASS", "moved by a MINISTER" */
    private static void agreedByVotes() {
        WindCabinet c = Check.of(Check.ministers("5 0 0 0", "4 0 0 0", "1 27 0 0")
                + "quota 10; want 1 summer 3 4 5; veto 1;");
        agreed("what the second wants", c, new int[] {NONE, 0, 1}, 1, 345, 345);
        agreed("what both want", c, new int[] {NONE, 0, 0}, 1, 0, 0);
        agreed("by the second", c, new int[] {NONE, 1, 1}, 1, 0, 0);
        agreed("by the third, both unlike", c, new int[] {NONE, 2, 1}, 0, NONE, NONE);
        agreed("by the third, both alike", c, new int[] {NONE, 2, 3}, 1, 0, 0);
        c = Check.of(Check.ministers("5 0 0 0", "4 1 0 0") + "quota 5; veto 1; want 1 spring 5 5 5; feud 0 1;"
                + "spite 1;");
        agreed("but for a feud it would be seven", c, new int[] {NONE, 0, 0}, 1, 555, 555);
    }

    /** "the WETTEST (most RAIN; of several the least WIND, then the least SUN), the FINEST (most SUN; then the least ..)" */
    private static void agreedBest() {
        // The second wants 5 3 3 and yields 2: of 25 days those under the orders.
        WindCabinet c = Check.of(Check.ministers("5 0 0 0", "5 2 0 0") + "quota 10; want 1 spring 5 3 3;");
        Check.told(c, 1, "no rain above 6; no sun above 4;");
        agreed("all", c, new int[] {NONE, 0, 0}, 25, 733, 535);
        // Off by 2 with rain 7 or sun 5: two of them.
        agreed("least wind ahead of least sun, least rain ahead of least wind", c, new int[] {0, 0, 0}, 23, 623, 434);
        Check.told(c, 1, "no rain above 5; no wind below 3;");
        Check.due("of alike rain and wind the least sun", c.agreed(0, 1, 0, 0, 1), 531);
        Check.tell(c, 1, 1, "no sun above 3; no rain below 5;");
        Check.due("of alike sun and rain the least wind", c.agreed(0, 1, 0, 0, 2), 513);
        c = Check.of(ALONE, "no rain above 5; no wind below 2; no sun below 3;");
        agreed("under three bounds", c, new int[] {0, 0, 0}, 6 * 8 * 7, 523, 29);
    }

    /** "-2: there is none such (of any), or for another what." */
    private static void agreedRefused() {
        WindCabinet c = Check.of(Check.ministers("9 0 0 0", "9 0 0 0") + "quota 1;", "");
        int[] others = Check.andWild(-1, -2, 3, 4, 10);
        for (int[] good : new int[][] {{0, NONE, 0, 0, 0}, {0, 0, 1, 3, 2}}) {
            Check.refused("agreed", -2, n -> c.agreed(n[0], n[1], n[2], n[3], n[4]), good, NO_SECOND,
                    Check.andWild(-2, -3, 1, 2), NO_THIRD_MINISTER, SEASONS, others);
        }
    }

    // ---- promise 16

    private static void power(WindCabinet c, int minister, int n, int d) {
        Check.due("POWER of " + minister + ", N", c.power(0, minister, false), n);
        Check.due("POWER of " + minister + ", D", c.power(0, minister, true), d);
    }

    /** "he is the one by whom VOTES come to QUOTA": of one row, or none */
    private static void powerOfOne() {
        power(Check.of("minister 9 0 0 0; quota 9;"), 0, 1, 1);
        power(Check.of("minister 9 0 0 0; quota 8;"), 0, 1, 1);
        power(Check.of("minister 9 0 0 0; quota 10;"), 0, 0, 1);
        WindCabinet c = Check.of(Check.ministers("9 0 0 0", "1 0 0 0") + "quota 9;");
        power(c, 0, 1, 1);
        power(c, 1, 0, 1);
        c = Check.of(Check.ministers("9 0 0 0", "1 0 0 0") + "quota 10;");
        power(c, 0, 1, 2);
        power(c, 1, 1, 2);
    }

    /** "in how many of all rows of MINISTERS .. by all of them: a fraction in least terms" */
    private static void powerOfSix() {
        for (int quota : new int[] {1, 2, 3, 4, 5, 6}) {
            WindCabinet c = Check.of("minister 1 0 0 0;".repeat(6) + "quota " + quota + ";");
            for (int m = 0; m < 6; m++) {
                power(c, m, 1, 6);
            }
        }
        power(Check.of("minister 1 0 0 0;".repeat(6) + "quota 7;"), 5, 0, 1);
        // The great one decides wherever he does not stand first, each other one where he stands second behind him.
        WindCabinet c = Check.of("minister 1 0 0 0;".repeat(5) + "minister 5 0 0 0; quota 6; veto 0;");
        power(c, 5, 5, 6);
        for (int m = 0; m < 5; m++) {
            power(c, m, 1, 30);
        }
        c = Check.of("minister 9 0 0 0;" + "minister 1 0 0 0;".repeat(5) + "quota 9; veto 5;");
        power(c, 0, 1, 1);
        power(c, 5, 0, 1);
    }

    /** Votes 4, 3, 2, 1 of 6: 10, 6, 6 and 2 of 24 rows. */
    private static void powerOfFour() {
        WindCabinet c = Check.of(Check.ministers("4 0 0 0", "3 0 0 0", "2 0 0 0", "1 0 0 0") + "quota 6; veto 3;");
        power(c, 0, 5, 12);
        power(c, 1, 1, 4);
        power(c, 2, 1, 4);
        power(c, 3, 1, 12);
    }

    /** "NONE: there is none such (of either)." */
    private static void powerRefused() {
        WindCabinet c = Check.of(Check.ministers("9 0 0 0", "9 0 0 0"));
        Check.refused("power", NONE, n -> c.power(n[0], n[1], false), new int[] {0, 1}, NO_SECOND, NO_THIRD_MINISTER);
        Check.refused("power", NONE, n -> c.power(n[0], n[1], true), new int[] {0, 0}, NO_SECOND, NO_THIRD_MINISTER);
        Check.due("nobody there", Check.of("").power(0, 0, true), NONE);
    }

    // ---- promise 17

    private static void coalitions(WindCabinet c, int key, int... sets) {
        Check.due("how many", c.coalition(0, NONE), sets.length);
        for (int k = 0; k < sets.length; k++) {
            Check.due("coalition " + k, c.coalition(0, k), sets[k]);
        }
        Check.due("no coalition behind the last", c.coalition(0, sets.length), -3);
        Check.due("KEY", c.coalition(0, -2), key);
    }

    /** "sets whose VOTES are QUOTA or more, but not without any one of them: how many; the k-th by numbers" */
    private static void coalitionsOfSix() {
        String six = "minister 1 0 0 0;".repeat(6) + "veto 0;";
        coalitions(Check.of(six + "quota 1;"), 0, 1, 2, 4, 8, 16, 32);
        coalitions(Check.of(six + "quota 3;"), 0, 7, 11, 13, 14, 19, 21, 22, 25, 26, 28, 35, 37, 38, 41, 42, 44, 49,
                50,
                52, 56);
        coalitions(Check.of(six + "quota 5;"), 0, 31, 47, 55, 59, 61, 62);
        coalitions(Check.of(six + "quota 6;"), 63, 63);
        coalitions(Check.of(six + "quota 7;"), 63);
    }

    /** "KEY: MINISTERS (bits) without each of whom, VETOES aside, all others together have not QUOTA" */
    private static void coalitionsOfFour() {
        String four = Check.ministers("4 0 0 0", "3 0 0 0", "2 0 0 0", "1 0 0 0") + "veto 3;";
        coalitions(Check.of(four + "quota 6;"), 0, 3, 5, 14);
        coalitions(Check.of(four + "quota 7;"), 1, 3, 13);
        coalitions(Check.of(four + "quota 8;"), 3, 7, 11);
        coalitions(Check.of(four + "quota 9;"), 7, 7);
        coalitions(Check.of(four + "quota 10;"), 15, 15);
        coalitions(Check.of(four + "quota 4;"), 0, 1, 6, 10);
        four = Check.ministers("1 0 0 0", "2 0 0 0", "3 0 0 0", "4 0 0 0") + "veto 0;";
        coalitions(Check.of(four + "quota 6;"), 0, 7, 10, 12);
        coalitions(Check.of(four + "quota 7;"), 8, 11, 12);
    }

    private static void coalitionsOfNone() {
        coalitions(Check.of("quota 1;"), 0);
        coalitions(Check.of("minister 1 0 0 0; quota 2;"), 1);
        coalitions(Check.of("minister 1 0 0 0; quota 1;"), 1, 1);
    }

    /** "-3: there is none such (of any)." */
    private static void coalitionRefused() {
        WindCabinet c = Check.of(Check.ministers("9 0 0 0", "9 0 0 0"));
        int[] others = Check.andWild(-3, -4, 1, 2, 3);
        Check.refused("coalition", -3, n -> c.coalition(n[0], n[1]), new int[] {0, 0}, NO_SECOND, others);
        Check.refused("coalitions", -3, n -> c.coalition(n[0], n[1]), new int[] {0, NONE}, NO_SECOND);
        Check.refused("key", -3, n -> c.coalition(n[0], n[1]), new int[] {0, -2}, NO_SECOND);
    }

    // ---- promise 18

    private static void bribe(String call, WindCabinet c, int by, int[] day, int cost, int whom) {
        Check.due(call, c.bribe(0, by, 0, day[0], day[1], day[2], false), cost);
        Check.due(call + ", whom", c.bribe(0, by, 0, day[0], day[1], day[2], true), whom);
    }

    /** "the least by which it PASSES": nothing, if it does anyway */
    private static void bribeOfNobody() {
        WindCabinet c = Check.of(Check.ministers("5 0 0 9", "5 3 0 9", "5 0 0 0") + "quota 10;");
        bribe("it passes anyway", c, 0, new int[] {3, 0, 0}, 0, 0);
        c = Check.of(Check.ministers("9 0 0 9", "5 27 0 9", "5 27 0 9") + "quota 9;");
        bribe("who agrees is not paid for agreeing", c, 0, new int[] {0, 0, 0}, 0, 0);
        c = Check.of(Check.ministers("5 0 0 9", "1 27 0 9", "4 0 0 1") + "quota 10;");
        bribe("nor beside one who is bought", c, 0, new int[] {0, 0, 2}, 2, 4);
    }

    /** "bought for PRICE times what OFF is above his YIELD less SPITE (as above, also below 0)" */
    private static void bribeAboveYield() {
        for (int price : new int[] {0, 1, 9}) {
            for (int off = 0; off <= 9; off++) {
                WindCabinet c = Check.of(Check.ministers("5 0 0 0", "5 4 0 " + price) + "quota 10;");
                int above = Math.max(off - 4, 0);
                bribe("off " + off, c, 0, new int[] {off, 0, 0}, price * above, above > 0 ? 2 : 0);
                c = Check.of(Check.ministers("5 0 0 0", "5 4 0 " + price) + "quota 10; feud 1 0; spite 3;");
                above = Math.max(off - 1, 0);
                bribe("in feud, off " + off, c, 0, new int[] {off, 0, 0}, price * above, above > 0 ? 2 : 0);
                c = Check.of(Check.ministers("5 0 0 0", "5 4 0 " + price) + "quota 10; feud 0 1; spite 9;");
                bribe("in feud, his YIELD below 0, off " + off, c, 0, new int[] {off, 0, 0}, price * (off + 5), 2);
            }
        }
        WindCabinet c = Check.of("minister 9 0 0 9;".repeat(6) + "quota 54; spite 9;"
                + "feud 0 1; feud 0 2; feud 0 3; feud 0 4; feud 0 5;");
        bribe("the most that any can be", c, 0, new int[] {9, 9, 9}, 5 * 9 * 36, 62);
        bribe("by one without their feuds", c, 1, new int[] {9, 9, 9}, 9 * 36 + 4 * 9 * 27, 61);
    }

    /** "whom (bits; of several the least)" */
    private static void bribeOfSeveral() {
        WindCabinet c = Check.of(Check.ministers("5 0 0 0", "5 0 0 3", "5 0 0 2", "5 0 0 2") + "quota 10;");
        bribe("the cheaper one, the first of two", c, 0, new int[] {1, 0, 0}, 2, 4);
        c = Check.of(Check.ministers("5 0 0 0", "1 0 0 1", "1 0 0 1", "2 0 0 2") + "quota 7;");
        bribe("two for as much as one", c, 0, new int[] {1, 0, 0}, 2, 6);
        c = Check.of(Check.ministers("5 0 0 0", "2 0 0 2", "1 0 0 1", "1 0 0 1") + "quota 7;");
        bribe("one for as much as two", c, 0, new int[] {1, 0, 0}, 2, 2);
        c = Check.of(Check.ministers("5 0 0 0", "1 0 0 1", "1 0 0 1", "2 0 0 3") + "quota 7;");
        bribe("two for less than one", c, 0, new int[] {1, 0, 0}, 2, 6);
        c = Check.of(Check.ministers("5 0 0 0", "1 0 0 0", "5 0 0 4") + "quota 10;");
        bribe("nobody for nothing who is no help", c, 0, new int[] {1, 0, 0}, 4, 4);
        c = Check.of(Check.ministers("1 0 0 0", "5 0 0 4", "5 0 0 0") + "quota 10;");
        bribe("the one ahead of the mover, too", c, 2, new int[] {1, 0, 0}, 4, 2);
        c = Check.of(Check.ministers("5 0 0 0", "5 2 0 3", "5 0 0 2") + "quota 10;");
        bribe("3 for one unit, 2 for each of three", c, 0, new int[] {3, 0, 0}, 3, 2);
    }

    /** "by which it PASSES": a VETO of who does not agree is bought, too */
    private static void bribeOfVetoes() {
        WindCabinet c = Check.of(Check.ministers("9 0 0 0", "1 0 0 9", "1 0 0 1") + "quota 9; veto 1;");
        bribe("enough votes, but a veto", c, 0, new int[] {2, 0, 0}, 18, 2);
        c = Check.of(Check.ministers("5 0 0 0", "1 0 0 9", "5 0 0 1") + "quota 10; veto 1;");
        bribe("a veto, and votes", c, 0, new int[] {2, 0, 0}, 20, 6);
        c = Check.of(Check.ministers("9 0 0 0", "1 2 0 9", "1 0 0 1") + "quota 9; veto 1;");
        bribe("a veto of one who agrees", c, 0, new int[] {2, 0, 0}, 0, 0);
    }

    /** "NONE: by none" */
    private static void bribeByNone() {
        WindCabinet c = Check.of("minister 9 0 0 0;".repeat(6) + "quota 55;");
        bribe("never so many votes", c, 0, new int[] {9, 9, 9}, NONE, NONE);
        bribe("never so many votes", c, 0, new int[] {0, 0, 0}, NONE, NONE);
        bribe("just so many", Check.of("minister 9 0 0 0;".repeat(6) + "quota 54;"), 5, new int[] {9, 9, 9}, 0, 31);
    }

    /** "NONE: .. as off()" */
    private static void bribeRefused() {
        WindCabinet c = Check.of(Check.ministers("9 0 0 0", "9 0 0 0") + "quota 18;");
        int[][] bad = {NO_SECOND, NO_THIRD_MINISTER, SEASONS, AMOUNTS, AMOUNTS, AMOUNTS};
        for (int[] good : new int[][] {{0, 0, 0, 0, 0, 0}, {0, 1, 3, 9, 9, 9}}) {
            Check.refused("bribe", NONE, n -> c.bribe(n[0], n[1], n[2], n[3], n[4], n[5], false), good, bad);
            Check.refused("whom", NONE, n -> c.bribe(n[0], n[1], n[2], n[3], n[4], n[5], true), good, bad);
        }
    }

    // ---- promise 19

    private static void rests(String call, WindCabinet c, int by, int rain, int... due) {
        Check.due(call + ": how many", c.lobby(0, by, 0, rain, 0, 0, NONE), due.length);
        for (int k = 0; k < due.length; k++) {
            Check.due(call + ": " + k, c.lobby(0, by, 0, rain, 0, 0, k), due[k]);
        }
        Check.due(call + ": no more", c.lobby(0, by, 0, rain, 0, 0, due.length), NONE);
    }

    /** "couples (7 * FARMERS', and BATHERS')"; "(the MINISTERS' number is nobody)": whatever each of them does */
    private static void lobbyOfAll() {
        for (int size = 2; size <= 6; size++) {
            int[] all = new int[(size + 1) * (size + 1)];
            int[] nobody = {7 * size + size};
            for (int i = 0; i < all.length; i++) {
                all[i] = 7 * (i / (size + 1)) + i % (size + 1);
            }
            rests("it always passes", Check.of("minister 1 27 0 0;".repeat(size) + "quota 1;"), 0, 0, all);
            rests("it never does", Check.of("minister 9 0 0 0;".repeat(size) + "quota 60;"), 0, 0, all);
            rests("and all ask a price", Check.of("minister 1 27 0 1;".repeat(size) + "quota 1;"), 0, 0, nobody);
        }
    }

    /** "whom FARMERS alone buy agrees, whom BATHERS alone buy does not; whom both buy does as he would" */
    private static void lobbyOfOne() {
        rests("for nothing farmers hold him", Check.of("minister 9 0 0 0; quota 9;"), 0, 9, 0, 1);
        rests("for any price it goes round", Check.of("minister 9 0 0 1; quota 9;"), 0, 9);
        rests("for any price it goes round", Check.of("minister 9 0 0 9; quota 9;"), 0, 9);
        // The first one's motion needs the second, who would not agree; for nothing bathers hold either of them.
        WindCabinet c = Check.of(Check.ministers("5 0 0 0", "5 0 0 0") + "quota 10;");
        rests("bathers hold either", c, 0, 9, 0, 1, 7, 8, 14, 15);
        rests("both would agree", c, 0, 0);
    }

    /** "VETO" */
    private static void lobbyOfVeto() {
        // All agree, and the first one's votes are no matter; but bathers stop it by the second.
        String two = Check.ministers("9 27 0 9", "1 27 0 0") + "quota 1;";
        rests("farmers hold him who has a veto", Check.of(two + "veto 1;"), 0, 9, 8, 9);
        rests("without a veto nobody is worth a price", Check.of(two), 0, 9, 8, 9, 15, 16);
        two = Check.ministers("9 27 0 9", "1 27 0 5") + "quota 1;";
        rests("for a price it goes round", Check.of(two + "veto 1;"), 0, 9);
        rests("without a veto nobody buys", Check.of(two), 0, 9, 16);
    }

    /** "GAIN: 20, if it is as one wants it, less PRICE of whom one buys (0 of nobody)" */
    private static void lobbyOfWhoDoesNot() {
        // Farmers would need two who do not agree: nobody buys, and bathers have it for nothing.
        WindCabinet c = Check.of(Check.ministers("5 0 0 1", "5 0 0 1", "5 0 0 1") + "quota 15;");
        rests("too far from passing", c, 0, 9, 24);
        // The second and the third never agree; only nobody and the free first one are as good for either.
        c = Check.of(Check.ministers("5 0 0 0", "5 0 0 1", "5 0 0 1") + "quota 15;");
        rests("a free one is as good as nobody", c, 0, 9, 0, 3, 21, 24);
        c = Check.of(Check.ministers("5 0 0 9", "5 0 0 4") + "quota 10;");
        rests("for a price it goes round", c, 0, 9);
    }

    /** "whom FARMERS alone buy agrees": one more than the quota asks for, so that bathers can't stop it */
    private static void lobbyOfOneMore() {
        String one = "1 0 0 0";
        String all = "1 27 0 0";
        // With the one who does not agree farmers have three votes of two, whomever bathers buy.
        rests("the first", Check.of(Check.ministers(one, all, all) + "quota 2;"), 1, 9, 0, 1, 2, 3);
        rests("the second", Check.of(Check.ministers(all, one, all) + "quota 2;"), 0, 9, 7, 8, 9, 10);
        rests("the third", Check.of(Check.ministers(all, all, one) + "quota 2;"), 0, 9, 14, 15, 16, 17);
    }

    /** "NONE: there is none such (of any), or as off()." */
    private static void lobbyRefused() {
        WindCabinet c = Check.of(Check.ministers("1 27 0 0", "1 27 0 0") + "quota 1;");
        int[][] bad = {NO_SECOND, NO_THIRD_MINISTER, SEASONS, AMOUNTS, AMOUNTS, AMOUNTS,
                Check.andWild(-2, -3, 9, 10, 48)};
        for (int[] good : new int[][] {{0, 0, 0, 0, 0, 0, NONE}, {0, 1, 3, 9, 9, 9, 8}}) {
            Check.refused("lobby", NONE, n -> c.lobby(n[0], n[1], n[2], n[3], n[4], n[5], n[6]), good, bad);
        }
        WindCabinet none = Check.of("minister 9 0 0 9; quota 9;");
        Check.due("none rests: how many", none.lobby(0, 0, 0, 0, 0, 0, NONE), 0);
        Check.due("none rests: no first one", none.lobby(0, 0, 0, 0, 0, 0, 0), NONE);
    }

    // ---- promise 20

    /** "SHARES of MINISTERS, 0 .. 5, 0 .. 99 each (0 at first)" */
    private static void bargainShares() {
        WindCabinet c = Check.of("", "", "", "", "", "share 0 99; share 5 0; share 4 1; share 4 99;");
        Check.told(c, 5, "share 5 98;");
        int[][] due = {{99, 0, 0, 0, 99, 0}, {0, 0, 0, 0, 0, 98}};
        for (int b = 0; b < 2; b++) {
            for (int m = 0; m < 6; m++) {
                Check.due("share of " + m + " in " + b, c.bargain(0, b, m), due[b][m]);
            }
            Check.due("nobody is there: who would leave", c.bargain(0, b, 10), NONE);
            Check.due("nobody is there: how many", c.bargain(0, b, 11), 0);
        }
    }

    private static void leavers(String republic, String shares, int least, int many) {
        WindCabinet c = Check.of(republic, "", "", "", "", shares);
        Check.due("who would leave by " + shares, c.bargain(0, 0, 10), least);
        Check.due("how many sets by " + shares, c.bargain(0, 0, 11), many);
    }

    /** "if its VOTES are QUOTA or more and its SHARES together are below 100: the least such set (bits); how many" */
    private static void bargainLeavers() {
        String three = Check.ministers("5 0 0 0", "3 0 0 0", "2 0 0 0") + "veto 0;";
        leavers(three + "quota 5;", "share 0 99; share 1 1;", 1, 3);
        leavers(three + "quota 5;", "share 0 99; share 1 1; share 2 99;", 1, 1);
        leavers(three + "quota 5;", "share 0 99; share 1 1; share 2 98;", 1, 2);
        leavers(three + "quota 6;", "share 0 99; share 1 1; share 2 1;", NONE, 0);
        leavers(three + "quota 6;", "share 0 98; share 1 1; share 2 2;", 3, 1);
        leavers(three + "quota 6;", "share 0 98; share 1 2; share 2 1;", 5, 1);
        leavers(three + "quota 10;", "share 0 33; share 1 33; share 2 33;", 7, 1);
        leavers(three + "quota 10;", "share 0 33; share 1 33; share 2 34;", NONE, 0);
        leavers(three + "quota 11;", "", NONE, 0);
        leavers(three + "quota 1;", "", 1, 7);
        leavers(three + "quota 10;", "share 3 99; share 4 99; share 5 99;", 7, 1);
        leavers("minister 1 0 0 0;".repeat(6) + "quota 1;", "", 1, 63);
        leavers("minister 1 0 0 0;".repeat(6) + "quota 6;", "share 5 99;", 63, 1);
        leavers("minister 1 0 0 0;".repeat(6) + "quota 6;", "share 5 99; share 0 1;", NONE, 0);
    }

    /** "-2: there is none such (of either), or for another what." */
    private static void bargainRefused() {
        WindCabinet c = Check.of("minister 1 0 0 0; quota 1;", "", "", "", "", "share 1 1;");
        int[] others = Check.andWild(-1, -2, 6, 7, 8, 9, 12, 13);
        for (int what : new int[] {0, 5, 10, 11}) {
            Check.refused("bargain", -2, n -> c.bargain(n[0], n[1], n[2]), new int[] {0, 0, what}, NO_SECOND,
                    NO_SECOND, others);
        }
    }
}

/** Each promise of the document by hand: ordinary calls, the edges that it names, and wrong arguments. */
public final class PromiseTest {
    private static final int NONE = WindCabinet.NONE;
    private static final int LEAST = Integer.MIN_VALUE;
    private static final int MOST = Integer.MAX_VALUE;

    /** Votes 5, 3, 2 at a quota of 6; the second is quick to resign, the first two feud. */
    private static final String THREE = "minister 5 3 0 1; minister 3 4 2 2; minister 2 6 1 3;"
            + "want 0 spring 4 0 2; want 1 spring 2 1 2; want 2 spring 1 0 5; want 0 summer 1 1 8;"
            + "want 1 summer 2 2 7; want 2 summer 0 0 9; want 0 autumn 5 5 1; want 1 winter 3 3 3;"
            + "feud 0 1; quota 6; cloud 7; ground 3; heat 20;";

    private PromiseTest() {
    }

    public static void main(String[] args) {
        newObject();
        feed();
        end();
        text();
        textInPlace();
        fault();
        faultsOfGrammar();
        faultsOfNumbers();
        faultsOfMany();
        faultsOfAbsent();
        republic();
        minister();
        off();
        vote();
        voteOfAll();
        order();
        broken();
        deed();
        stop();
        stateOfMotions();
        stateOfOtherDeeds();
        stateEdges();
        agreed();
        power();
        coalition();
        bribe();
        lobby();
        bargain();
        was();
        nature();
        natureMended();
        seats();
        reshuffle();
        leak();
        fits();
        drawn();
        count();
        image();
        again();
        longestTape();
        Check.finish();
    }

    private static WindCabinet three() {
        WindCabinet c = new WindCabinet();
        Check.told(c, Check.REPUBLIC, THREE);
        return c;
    }

    private static WindCabinet of(String republic) {
        WindCabinet c = new WindCabinet();
        Check.told(c, Check.REPUBLIC, republic);
        return c;
    }

    // ---- promises 1 to 5

    private static void newObject() {
        WindCabinet c = new WindCabinet();
        for (int sort = 0; sort < 6; sort++) {
            Check.due("new: count " + sort, c.count(sort), 0);
        }
        for (int k = 0; k < 3; k++) {
            Check.due("new: again " + k, c.again(k), false);
        }
        Check.due("new: end(0)", c.end(0), 0);
        Check.due("new: end(1)", c.end(1), NONE);
        Check.due("new: fault", c.fault(0), 0);
        Check.due("new: place", c.fault(1), NONE);
        Check.due("NONE", NONE, -1);
    }

    private static void feed() {
        WindCabinet c = new WindCabinet();
        for (int i = 1; i <= 30; i++) {
            Check.due("feed " + i, c.feed(-1, 0, MOST, LEAST, i), 20 * i);
        }
        Check.due("feed beyond 600", c.feed(0, 0, 0, 0, 0), NONE);
        Check.due("nothing comes", c.end(601), NONE);
        Check.due("all 600 are there", c.end(600), 600);
        Check.due("end(581)", c.end(581), 581);
        Check.due("one byte too many", c.feed(0, 0, 0, 0, 0), NONE);
        Check.due("end(580)", c.end(580), 580);
        Check.due("just as many as may be", c.feed(0, 0, 0, 0, 0), 600);
        c.end(0);
        // "quota 12;" behind the highest byte first.
        c.feed(0x71756f74, 0x61203132, 0x3b000000, 0, 0);
        c.end(9);
        Check.due("bytes in their order", c.text(0, NONE), 0);
        Check.due("their number", c.republic(0, 1), 12);
    }

    private static void end() {
        WindCabinet c = new WindCabinet();
        c.feed(1, 2, 3, 4, 5);
        Check.due("end(21)", c.end(21), NONE);
        Check.due("end(-1)", c.end(-1), NONE);
        Check.due("end(least)", c.end(LEAST), NONE);
        Check.due("end(most)", c.end(MOST), NONE);
        Check.due("end(20)", c.end(20), 20);
        Check.due("end(7)", c.end(7), 7);
        Check.due("end(8)", c.end(8), NONE);
        Check.due("feed behind 7", c.feed(0, 0, 0, 0, 0), 27);
        Check.due("end(0)", c.end(0), 0);
    }

    private static void text() {
        String[] texts = {"quota 7;", "sum 3;", "pass;", "said 0 no;", "was spring 1 2 3;", "share 0 9;"};
        WindCabinet c = new WindCabinet();
        for (int sort = 0; sort < 6; sort++) {
            Check.due("first of " + sort, Check.tell(c, sort, NONE, texts[sort]), 0);
            Check.due("the tape is empty", c.end(1), NONE);
            Check.due("second of " + sort, Check.tell(c, sort, NONE, ""), 1);
            Check.due("third of " + sort, Check.tell(c, sort, NONE, texts[sort]), -2);
            Check.due("the tape is empty", c.end(1), NONE);
            Check.due("in a place of " + sort, Check.tell(c, sort, 1, texts[sort]), 1);
            Check.due("in no place of " + sort, Check.tell(c, sort, 2, texts[sort]), -2);
            Check.due("below all places of " + sort, Check.tell(c, sort, -2, texts[sort]), -2);
        }
        for (int sort : new int[] {-1, 6, LEAST, MOST}) {
            Check.due("no such sort " + sort, Check.tell(c, sort, NONE, texts[0]), -2);
            Check.due("the tape is empty", c.end(1), NONE);
        }
        Check.due("no such place", Check.tell(new WindCabinet(), 0, 0, ""), -2);
        Check.due("no such place", Check.tell(c, 0, LEAST, ""), -2);
        Check.due("no such place", Check.tell(c, 0, MOST, ""), -2);
    }

    private static void textInPlace() {
        WindCabinet c = of("quota 33; minister 1 1 1 1;");
        Check.due("a fault in the place of one", Check.tell(c, 0, 0, "quota 61;"), NONE);
        Check.due("the one stays", c.republic(0, 1), 33);
        Check.due("of several the place", Check.tell(c, 0, 0, "spite 9;"), 0);
        Check.due("nothing of the one before stays", c.republic(0, 1), 10);
        Check.due("nor its ministers", c.republic(0, 0), 0);
        Check.due("still one", c.count(0), 1);
        Check.told(c, Check.BARGAIN, "share 1 50; share 2 20; share 1 60;");
        Check.tell(c, Check.BARGAIN, 0, "share 2 7;");
        Check.due("no share of the one before", c.bargain(0, 0, 1), 0);
        Check.due("its own share", c.bargain(0, 0, 2), 7);
        String two = "minister 1 1 1 1; minister 1 1 1 1;";
        Check.told(c, 0, two + "want 0 spring 1 1 1; veto 0; feud 0 1; office sun 1; heat 1;");
        Check.tell(c, 0, 0, two);
        Check.due("no want of the text before", c.minister(0, 0, 10), 0);
        Check.due("no veto of the text before", c.minister(0, 0, 4), 0);
        Check.due("no feud of the text before", c.minister(0, 0, 5), 0);
        Check.due("no office of the text before", c.republic(0, 12), 0);
        Check.due("no heat of the text before", c.republic(0, 5), 20);
        Check.due("its want stays", c.minister(1, 0, 10), 1);
    }

    private static void fault() {
        WindCabinet c = new WindCabinet();
        Check.tell(c, 0, NONE, "quota 61;");
        Check.due("fault", c.fault(0), 2);
        Check.due("place", c.fault(1), 6);
        Check.due("another what", c.fault(2), NONE);
        Check.due("another what", c.fault(-1), NONE);
        Check.due("another what", c.fault(MOST), NONE);
        Check.tell(c, 0, 5, "x");
        Check.due("no text is read: fault", c.fault(0), 0);
        Check.due("no text is read: place", c.fault(1), NONE);
        Check.tell(c, 0, NONE, "x");
        Check.due("fault", c.fault(0), 1);
        Check.tell(c, 0, NONE, "quota 60;");
        Check.due("without: fault", c.fault(0), 0);
        Check.due("without: place", c.fault(1), NONE);
    }

    private static void faultsOfGrammar() {
        Check.faulty(0, "ministers 1 1 1 1;", 1, 0);
        Check.faulty(0, "quotaz 5;", 1, 0);
        Check.faulty(0, "quotaa 5;", 1, 0);
        Check.faulty(0, "quot 5;", 1, 0);
        Check.faulty(0, "quota` 5;", 1, 5);
        Check.faulty(0, "quota{5;", 1, 5);
        Check.faulty(0, "quota /5;", 1, 6);
        Check.faulty(0, "quota 5:", 1, 7);
        Check.faulty(0, "minister 1 1 1;", 1, 14);
        Check.faulty(0, "minister 1 1 1 1", 1, 16);
        Check.faulty(0, "quota 1  \n", 1, 10);
        Check.faulty(0, "quota 001;", 1, 6);
        Check.faulty(0, "quota 61; Quota 1;", 1, 10);
        Check.faulty(0, "quota\t1;", 1, 5);
        Check.faulty(0, "quota 1; ;", 1, 9);
        Check.faulty(0, "quota 1;;", 1, 8);
        Check.faulty(0, "quota -1;", 1, 6);
        Check.faulty(0, "quota 1;\u00e9", 1, 8);
        Check.faulty(0, "want 0 summers 1 1 1;", 1, 7);
        Check.faulty(0, "office 0 rain;", 1, 7);
        Check.faulty(0, "sum 5;", 1, 0);
        Check.faulty(1, "no rain 5;", 1, 8);
        Check.faulty(1, "no rain above 5 winter;", 1, 16);
        Check.faulty(1, "no rain above 5 in 3;", 1, 19);
        Check.faulty(1, "no rain above 5 in winter in winter;", 1, 26);
        Check.faulty(1, "sum 5 in winter;", 1, 6);
        Check.faulty(1, "after rain 1 sun;", 1, 16);
        Check.faulty(2, "season rain;", 1, 7);
        Check.faulty(2, "office summer 1;", 1, 7);
        Check.faulty(2, "pass 1;", 1, 5);
        Check.faulty(2, "recall;", 1, 6);
        Check.faulty(3, "said yes 0;", 1, 5);
        Check.faulty(3, "said 0 yes no;", 1, 11);
        Check.faulty(4, "was 1 1 1 1;", 1, 4);
        Check.faulty(4, "was spring 1 1 1 1;", 1, 17);
        Check.faulty(5, "share 1;", 1, 7);
        Check.faulty(5, "share 0 100;", 1, 8);
        WindCabinet c = new WindCabinet();
        Check.told(c, 0, "  \nminister7 27 0\n\n9;heat99;");
        Check.due("blanks where tokens part by themselves", c.minister(0, 0, 0), 7);
        Check.due("blanks where tokens part by themselves", c.republic(0, 5), 99);
        Check.told(c, 1, "no rain above 5in summer;");
        Check.due("a word behind a number", c.order(0, 0, 3), 1);
        Check.told(c, 0, "quota 07; cloud 00;");
        Check.due("two digits", c.republic(1, 1), 7);
        Check.due("two digits", c.republic(1, 3), 0);
    }

    private static void faultsOfNumbers() {
        Check.faulty(0, "minister 0 0 0 0;", 2, 9);
        Check.faulty(0, "minister 10 0 0 0;", 2, 9);
        Check.faulty(0, "minister 9 28 0 0;", 2, 11);
        Check.faulty(0, "minister 9 27 10 0;", 2, 14);
        Check.faulty(0, "minister 9 27 9 10;", 2, 16);
        Check.faulty(0, "want 6 spring 1 1 1;", 2, 5);
        Check.faulty(0, "want 0 spring 10 1 1;", 2, 14);
        Check.faulty(0, "want 0 spring 1 10 1;", 2, 16);
        Check.faulty(0, "want 0 spring 1 1 10;", 2, 18);
        Check.faulty(0, "veto 6;", 2, 5);
        Check.faulty(0, "feud 6 6;", 2, 5);
        Check.faulty(0, "feud 1 6;", 2, 7);
        Check.faulty(0, "minister 1 1 1 1; feud 0 0;", 2, 25);
        Check.faulty(0, "office wind 6;", 2, 12);
        Check.faulty(0, "quota 0;", 2, 6);
        Check.faulty(0, "quota 61;", 2, 6);
        Check.faulty(0, "spite 10;", 2, 6);
        Check.faulty(1, "no rain above 10;", 2, 14);
        Check.faulty(1, "no rain below 10 in spring;", 2, 14);
        Check.faulty(1, "sum 28;", 2, 4);
        Check.faulty(1, "after rain 10 sun 1;", 2, 11);
        Check.faulty(1, "after rain 1 sun 10;", 2, 17);
        Check.faulty(2, "move 6 0 0 0;", 2, 5);
        Check.faulty(2, "move 5 0 10 0;", 2, 9);
        Check.faulty(2, "office sun 6;", 2, 11);
        Check.faulty(2, "dismiss 6;", 2, 8);
        Check.faulty(2, "recall 6;", 2, 7);
        Check.faulty(3, "said 6 yes;", 2, 5);
        Check.faulty(4, "was winter 9 9 10;", 2, 15);
        Check.faulty(5, "share 6 0;", 2, 6);
        Check.faulty(1, "sum 28; sum 29; x", 1, 16);
        Check.faulty(1, "sum 28; sum 29;", 2, 4);
        Check.faulty(0, "veto 6; veto 0;", 2, 5);
        WindCabinet c = new WindCabinet();
        Check.told(c, 1, "sum 27; no sun below 9; after sun 9 sun 9;");
        Check.told(c, 2, "move 5 9 9 9; dismiss 5; recall 5; office sun 5;");
        Check.told(c, 5, "share 5 99; share 0 0;");
        Check.due("the greatest numbers", c.order(0, 0, 1), 27);
        Check.due("the greatest numbers", c.bargain(0, 0, 5), -2);
    }

    private static void faultsOfMany() {
        String minister = "minister 1 1 1 1;";
        Check.faulty(0, minister.repeat(6) + "quota 5;" + minister, 3, 110);
        Check.faulty(0, minister.repeat(6) + "minister 0 1 1 1;", 3, 102);
        Check.faulty(0, minister.repeat(5) + "minister 0 1 1 1;" + minister, 2, 94);
        Check.faulty(0, minister.repeat(7) + "x", 1, 119);
        Check.faulty(1, "sum 5;".repeat(9), 3, 48);
        Check.faulty(2, "pass;".repeat(40) + " pass;", 3, 201);
        Check.faulty(3, "said 0 no;".repeat(9), 3, 80);
        Check.faulty(4, "was spring 0 0 0;".repeat(9), 3, 136);
        WindCabinet c = new WindCabinet();
        Check.told(c, 0, minister.repeat(6));
        Check.told(c, 1, "sum 5;".repeat(8));
        Check.told(c, 2, "pass;".repeat(40));
        Check.told(c, 3, "said 0 no;".repeat(8));
        Check.told(c, 4, "was spring 0 0 0;".repeat(8));
        Check.told(c, 5, "share 0 1;".repeat(60));
        Check.due("six ministers", c.republic(0, 0), 6);
        Check.due("eight orders", c.order(0, NONE, 0), 8);
        Check.due("forty deeds", c.deed(0, NONE, 0), 40);
        Check.due("eight leaks", c.leak(0, NONE, 0), 8);
        Check.due("eight days", c.was(0, NONE, 0), 8);
    }

    private static void faultsOfAbsent() {
        Check.faulty(0, "want 0 spring 0 0 0;", 4, 20);
        Check.faulty(0, "veto 5; minister 1 1 1 1;  \n", 4, 28);
        Check.faulty(0, "minister 1 1 1 1; feud 0 1;", 4, 27);
        Check.faulty(0, "minister 1 1 1 1; feud 1 0;", 4, 27);
        Check.faulty(0, "minister 1 1 1 1; office sun 1; office sun 0;", 4, 45);
        WindCabinet c = new WindCabinet();
        Check.told(c, 0, "veto 1; want 1 winter 1 2 3; feud 1 0; office sun 1; minister 1 1 1 1; minister 2 1 1 1;");
        Check.due("told of ahead of the minister", c.minister(0, 1, 4), 1);
        Check.told(c, 0, "");
        Check.due("nobody is told of by the first office", c.republic(1, 10), 0);
        Check.told(c, 2, "dismiss 5;");
        Check.told(c, 3, "said 5 no;");
    }

    private static void longestTape() {
        WindCabinet c = new WindCabinet();
        StringBuilder text = new StringBuilder();
        for (int i = 0; i < 66; i++) {
            text.append("quota 9;\n");
        }
        text.append("heat7;");
        Check.due("600 bytes", Check.tell(c, 0, NONE, text.toString()), 0);
        Check.due("read to the last one", c.republic(0, 5), 7);
        Check.faulty(0, "a".repeat(600), 1, 0);
        Check.faulty(0, "quota 9" + " ".repeat(593), 1, 600);
    }

    // ---- promises 6 to 9

    private static void republic() {
        WindCabinet c = new WindCabinet();
        Check.due("there is none such", c.republic(0, 0), NONE);
        Check.told(c, 0, "");
        int[] first = {0, 10, 2, 50, 50, 20};
        for (int what = 0; what < first.length; what++) {
            Check.due("at first " + what, c.republic(0, what), first[what]);
        }
        Check.told(c, 0, "minister 1 1 1 1; minister 1 1 1 1; quota 5; quota 60; spite 9; spite 0; cloud 99; ground 0;"
                + "heat 1; heat 99; office sun 1; office rain 1; office rain 0; office wind 1;");
        int[] second = {2, 60, 0, 99, 0, 99};
        for (int what = 0; what < second.length; what++) {
            Check.due("told " + what, c.republic(1, what), second[what]);
        }
        Check.due("rain's office", c.republic(1, 10), 0);
        Check.due("wind's office", c.republic(1, 11), 1);
        Check.due("sun's office", c.republic(1, 12), 1);
        for (int what : new int[] {-1, 6, 9, 13, LEAST, MOST}) {
            Check.due("another what", c.republic(1, what), NONE);
        }
        for (int none : new int[] {-1, 2, LEAST, MOST}) {
            Check.due("there is none such", c.republic(none, 1), NONE);
        }
    }

    private static void minister() {
        WindCabinet c = of("minister 9 27 8 7; minister 1 0 0 0; minister 2 3 4 5; veto 2; feud 0 2; feud 2 1; feud 0 2;"
                + "want 0 spring 1 2 3; want 0 winter 4 5 6; want 0 spring 7 8 9; want 2 autumn 1 0 0;");
        int[] first = {9, 27, 8, 7, 0, 4};
        int[] third = {2, 3, 4, 5, 1, 3};
        for (int what = 0; what < 6; what++) {
            Check.due("first's " + what, c.minister(0, 0, what), first[what]);
            Check.due("third's " + what, c.minister(0, 2, what), third[what]);
        }
        int[] wants = {7, 8, 9, 0, 0, 0, 0, 0, 0, 4, 5, 6};
        for (int i = 0; i < 12; i++) {
            Check.due("first's want " + i, c.minister(0, 0, 10 + i), wants[i]);
            Check.due("second's want " + i, c.minister(0, 1, 10 + i), 0);
            Check.due("third's want " + i, c.minister(0, 2, 10 + i), i == 6 ? 1 : 0);
        }
        for (int what : new int[] {-1, 6, 9, 22, LEAST, MOST}) {
            Check.due("another what", c.minister(0, 0, what), NONE);
        }
        for (int none : new int[] {-1, 3, 5, LEAST, MOST}) {
            Check.due("no such minister", c.minister(0, none, 0), NONE);
            Check.due("no such republic", c.minister(none, 0, 0), NONE);
        }
    }

    private static void off() {
        WindCabinet c = three();
        Check.due("his wants", c.off(0, 0, 0, 4, 0, 2), 0);
        Check.due("all differences together", c.off(0, 0, 0, 1, 9, 9), 3 + 9 + 7);
        Check.due("of that season", c.off(0, 0, 1, 1, 9, 9), 8 + 1);
        Check.due("the farthest", c.off(0, 1, 2, 9, 9, 9), 27);
        Check.due("no such republic", c.off(1, 0, 0, 4, 0, 2), NONE);
        Check.due("no such minister", c.off(0, 3, 0, 4, 0, 2), NONE);
        Check.due("no such minister", c.off(0, -1, 0, 4, 0, 2), NONE);
        Check.due("no such season", c.off(0, 0, 4, 4, 0, 2), NONE);
        Check.due("no such season", c.off(0, 0, -1, 4, 0, 2), NONE);
        for (int amount : new int[] {-1, 10, LEAST, MOST}) {
            Check.due("another amount", c.off(0, 0, 0, amount, 0, 0), NONE);
            Check.due("another amount", c.off(0, 0, 0, 0, amount, 0), NONE);
            Check.due("another amount", c.off(0, 0, 0, 0, 0, amount), NONE);
        }
    }

    private static void vote() {
        // In spring 2 0 2 is off by 2, 1, 4; the first two feud, and spite takes 2 of yields 3 and 4.
        WindCabinet c = three();
        Check.due("the first moves", c.vote(0, 0, 0, 2, 0, 2, false), 7);
        Check.due("the second moves: the first yields only 1", c.vote(0, 1, 0, 2, 0, 2, false), 6);
        Check.due("the third moves", c.vote(0, 2, 0, 2, 0, 2, false), 7);
        Check.due("5 of 6 votes", c.vote(0, 1, 0, 2, 0, 2, true), 0);
        Check.due("10 votes", c.vote(0, 0, 0, 2, 0, 2, true), 1);
        Check.due("his own, however far off", c.vote(0, 2, 0, 9, 9, 9, false), 4);
        // Off by 3 is not above a yield of 3; by 4 it is.
        Check.due("just not above", c.vote(0, 2, 0, 1, 0, 2, false) & 1, 1);
        Check.due("above", c.vote(0, 2, 0, 0, 0, 2, false) & 1, 0);
        Check.due("passes: another amount", c.vote(0, 0, 0, 10, 0, 2, true), NONE);
        Check.due("no such mover", c.vote(0, 3, 0, 1, 0, 2, true), NONE);
        Check.due("no such season", c.vote(0, 0, 4, 1, 0, 2, false), NONE);
        Check.due("no such republic", c.vote(1, 0, 0, 1, 0, 2, false), NONE);
        Check.due("another amount", c.vote(0, 0, 0, 1, -1, 2, false), NONE);
        Check.due("another amount", c.vote(0, 0, 0, 1, 0, 10, false), NONE);
    }

    private static void voteOfAll() {
        WindCabinet c = of("minister 6 27 0 0; minister 4 0 0 0; quota 10;");
        Check.due("just the quota", c.vote(0, 0, 0, 0, 0, 0, true), 1);
        Check.due("below the quota", c.vote(0, 0, 0, 0, 0, 1, true), 0);
        c = of("minister 9 27 0 0; minister 1 0 0 0; veto 1; quota 5;");
        Check.due("a veto of one who agrees", c.vote(0, 0, 0, 0, 0, 0, true), 1);
        Check.due("a veto of one who does not", c.vote(0, 0, 0, 0, 0, 1, true), 0);
        Check.due("who has it moves", c.vote(0, 1, 0, 9, 9, 9, true), 1);
        c = of("minister 9 1 0 0; minister 9 0 0 0; feud 0 1;");
        Check.due("spite takes more than he yields", c.vote(0, 1, 0, 0, 0, 0, false), 2);
        Check.due("so does the other one's", c.vote(0, 0, 0, 0, 0, 0, false), 1);
    }

    // ---- promises 10 to 14

    private static void order() {
        WindCabinet c = new WindCabinet();
        Check.due("there is none such", c.order(0, NONE, 0), -2);
        Check.told(c, 1, "no wind above 5; no sun below 3 in winter; sum 27; after rain 9 sun 0; no rain above 0 in spring;");
        int[][] rows = {{0, 1, 5, -1, -1}, {1, 2, 3, 3, -1}, {2, 27, -1, -1, -1}, {3, 0, 9, 2, 0}, {0, 0, 0, 0, -1}};
        Check.due("how many", c.order(0, NONE, 0), 5);
        for (int k = 0; k < rows.length; k++) {
            for (int what = 0; what < 5; what++) {
                Check.due("order " + k + ", " + what, c.order(0, k, what), rows[k][what]);
            }
        }
        Check.due("how many of nothing", c.order(0, NONE, 1), -2);
        for (int other : new int[] {-2, 5, LEAST, MOST}) {
            Check.due("no such order", c.order(0, other, 0), -2);
            Check.due("another what", c.order(0, 0, other), -2);
            Check.due("there is none such", c.order(other, 0, 0), -2);
        }
        Check.due("another what", c.order(0, 0, -1), -2);
    }

    private static void broken() {
        WindCabinet c = new WindCabinet();
        Check.due("there is none such", c.broken(0, 0, 9, 9, 9, NONE), NONE);
        Check.told(c, 1, "no rain above 5; no wind below 3 in winter; sum 12; after rain 4 sun 2;");
        Check.due("none", c.broken(0, 0, 5, 0, 7, NONE), NONE);
        Check.due("above", c.broken(0, 0, 6, 0, 0, NONE), 0);
        Check.due("below, in that season", c.broken(0, 3, 0, 2, 0, NONE), 1);
        Check.due("just not below", c.broken(0, 3, 0, 3, 0, NONE), NONE);
        Check.due("below, in another season", c.broken(0, 2, 0, 2, 0, NONE), NONE);
        Check.due("the sum", c.broken(0, 0, 5, 0, 8, NONE), 2);
        Check.due("just the sum", c.broken(0, 0, 0, 3, 9, NONE), NONE);
        Check.due("after so much", c.broken(0, 0, 0, 0, 3, 400), 3);
        Check.due("after more", c.broken(0, 0, 0, 0, 3, 999), 3);
        Check.due("after less", c.broken(0, 0, 0, 0, 3, 399), NONE);
        Check.due("not more than told", c.broken(0, 0, 0, 0, 2, 400), NONE);
        Check.due("on the first day", c.broken(0, 0, 0, 0, 3, NONE), NONE);
        Check.due("the first of several", c.broken(0, 3, 9, 0, 9, 400), 0);
        for (int other : new int[] {-2, 1000, LEAST, MOST}) {
            Check.due("no such day ahead", c.broken(0, 0, 6, 0, 0, other), NONE);
            Check.due("no such orders", c.broken(other, 0, 6, 0, 0, NONE), NONE);
            Check.due("no such season", c.broken(0, other, 6, 0, 0, NONE), NONE);
            Check.due("another amount", c.broken(0, 0, other, 0, 0, NONE), NONE);
            Check.due("another amount", c.broken(0, 0, 6, other, 0, NONE), NONE);
            Check.due("another amount", c.broken(0, 0, 6, 0, other, NONE), NONE);
        }
        Check.told(c, 1, "after sun 0 wind 0; after wind 2 rain 1;");
        Check.due("of other kinds", c.broken(1, 0, 0, 1, 0, 0), 0);
        Check.due("of other kinds", c.broken(1, 0, 2, 0, 0, 20), 1);
        Check.due("of other kinds", c.broken(1, 0, 2, 0, 0, 10), NONE);
    }

    private static void deed() {
        WindCabinet c = new WindCabinet();
        Check.due("there is none such", c.deed(0, NONE, 0), -2);
        Check.told(c, 2, "move 5 1 2 3; season winter; office sun 4; dismiss 3; recall 2; pass;");
        int[][] rows = {{0, 5, 1, 2, 3}, {1, 3, -1, -1, -1}, {2, 2, 4, -1, -1}, {3, 3, -1, -1, -1}, {4, 2, -1, -1, -1},
            {5, -1, -1, -1, -1}};
        Check.due("how many", c.deed(0, NONE, 0), 6);
        for (int k = 0; k < rows.length; k++) {
            for (int what = 0; what < 5; what++) {
                Check.due("deed " + k + ", " + what, c.deed(0, k, what), rows[k][what]);
            }
        }
        Check.due("how many of nothing", c.deed(0, NONE, 4), -2);
        for (int other : new int[] {-2, 6, LEAST, MOST}) {
            Check.due("no such deed", c.deed(0, other, 0), -2);
            Check.due("another what", c.deed(0, 0, other), -2);
            Check.due("there is none such", c.deed(other, 0, 0), -2);
        }
    }

    private static int stopOf(String republic, String orders, String year) {
        WindCabinet c = of(republic);
        Check.told(c, 1, orders);
        Check.told(c, 2, year);
        return c.stop(0, 0, 0);
    }

    private static void stop() {
        String two = "minister 9 27 0 0; minister 9 27 0 0; cloud 3; heat 95;";
        Check.due("all can be", stopOf(two, "", "move 0 3 0 0; pass; season autumn;"), 3);
        Check.due("no deeds", stopOf(two, "", ""), 0);
        Check.due("an order", stopOf(two, "no rain above 2;", "pass; move 0 3 0 0;"), 1);
        Check.due("an order of that season", stopOf(two, "no rain above 2 in winter;",
                "move 0 3 0 9; season winter; move 1 3 0 0; pass;"), 0);
        Check.due("an order of that season", stopOf(two, "no rain above 2 in winter;",
                "move 0 3 0 3; season winter; move 1 3 0 0; pass;"), 2);
        Check.due("an order behind a day", stopOf(two, "after rain 1 sun 0;", "move 0 0 0 1; move 0 1 0 0; move 0 0 0 1;"),
                2);
        Check.due("an order behind a committee's day", stopOf(two, "after rain 1 sun 0;", "pass; move 0 0 0 1;"), 1);
        Check.due("too little cloud", stopOf(two, "", "move 0 2 0 0; move 0 2 0 0;"), 1);
        Check.due("too hot", stopOf(two, "", "move 0 0 0 4; move 0 0 0 1;"), 1);
        Check.due("just not too cold", stopOf(two + "heat 9;", "", "move 0 0 9 0; move 0 0 1 0;"), 1);
        Check.due("sun less wind", stopOf(two, "", "move 0 0 5 9; move 0 0 1 1;"), 2);
        Check.due("no such minister moves", stopOf(two, "", "move 2 0 0 0;"), 0);
        Check.due("no such minister's office", stopOf(two, "", "office sun 1; office sun 2;"), 1);
        Check.due("no such minister is dismissed", stopOf(two, "", "dismiss 2;"), 0);
        Check.due("no such minister is recalled", stopOf(two, "", "recall 2;"), 0);
        Check.due("one who is not there", stopOf(two, "", "dismiss 1; move 1 0 0 0;"), 1);
        Check.due("one who is not there", stopOf(two, "", "dismiss 1; office sun 1;"), 1);
        Check.due("one who is not there", stopOf(two, "", "dismiss 1; dismiss 1;"), 1);
        Check.due("one who is there", stopOf(two, "", "dismiss 1; recall 1; recall 1;"), 2);
        WindCabinet c = of(two);
        Check.told(c, 1, "");
        Check.told(c, 2, "");
        Check.due("all there", c.stop(0, 0, 0), 0);
        for (int none : new int[] {-1, 1, LEAST, MOST}) {
            Check.due("no such republic", c.stop(none, 0, 0), NONE);
            Check.due("no such orders", c.stop(0, none, 0), NONE);
            Check.due("no such year", c.stop(0, 0, none), NONE);
        }
    }

    private static void states(WindCabinet c, int n, int... due) {
        for (int what = 0; what < due.length; what++) {
            Check.due("state behind " + n + ", " + what, c.state(0, 0, 0, n, what), due[what]);
        }
    }

    private static void stateOfMotions() {
        // The third wants no rain, yields 1, and has a temper of 2; quota 10 of 5 + 5 + 2.
        WindCabinet c = of("minister 5 27 0 0; minister 5 27 0 0; minister 2 1 2 0; quota 10; cloud 5; ground 1; heat 20;");
        Check.told(c, 1, "no rain above 4;");
        Check.told(c, 2, "move 0 2 3 4; move 2 0 0 0; move 0 2 0 0; move 1 0 0 9; move 0 0 0 0; dismiss 1; pass;"
                + "move 0 0 0 0; recall 2; recall 1; move 0 1 1 1;");
        Check.due("stop", c.stop(0, 0, 0), 11);
        states(c, 0, 0, 0, 7, 0, 5, 1, 20, 0, 0, -1, 0, 0, 0);
        // Rain 2 of 5 to the ground's 1: 3 there, and 3 of 4 suns go up.
        states(c, 1, 1, 0, 7, 0, 6, 0, 21, 0, 0, 234);
        Check.due("who does not agree", c.state(0, 0, 0, 1, 22), 1);
        Check.due("who agrees", c.state(0, 0, 0, 1, 20), 0);
        states(c, 2, 2, 0, 7, 0, 6, 0, 21, 0, 0, 0);
        Check.due("his own motion stills him", c.state(0, 0, 0, 2, 22), 0);
        states(c, 3, 3, 0, 7, 0, 4, 2, 21, 0, 0, 200);
        Check.due("again", c.state(0, 0, 0, 3, 22), 1);
        states(c, 4, 4, 0, 3, 4, 6, 0, 30, 0, 0, 9);
        Check.due("as much as his temper", c.state(0, 0, 0, 4, 22), 2);
        states(c, 5, 5, 0, 3, 4, 6, 0, 30, 0, 0, 0);
        Check.due("of one who is there no more", c.state(0, 0, 0, 5, 22), 2);
        states(c, 6, 5, 0, 1, 4, 6, 0, 30, 0, 1, 0);
        states(c, 7, 6, 0, 1, 4, 5, 1, 30, 1, 1, 100);
        // Alone he has 5 votes of 10: the committee's day.
        states(c, 8, 7, 0, 1, 4, 4, 2, 30, 2, 1, 100);
        states(c, 9, 7, 0, 5, 4, 4, 2, 30, 2, 1, 100);
        Check.due("recalled, without anger", c.state(0, 0, 0, 9, 22), 0);
        states(c, 11, 8, 0, 7, 4, 4, 2, 30, 2, 0, 111);
        Check.due("angry anew", c.state(0, 0, 0, 11, 22), 1);
    }

    private static void stateOfOtherDeeds() {
        WindCabinet c = of("minister 5 27 0 0; minister 5 0 1 0; minister 9 0 1 0; office sun 1; quota 15; cloud 1; ground 0;"
                + "want 2 summer 1 1 1;");
        Check.told(c, 1, "no rain above 0; no sun below 5 in winter;");
        Check.told(c, 2, "season summer; office rain 2; office wind 1; move 0 0 1 1; season winter; pass; pass; dismiss 2;"
                + "office sun 0;");
        Check.due("stop", c.stop(0, 0, 0), 9);
        states(c, 3, 0, 1, 7, 0, 1, 0, 20, 0, 0, -1, 2, 1, 1);
        // 5 votes of 15: it does not pass, and a committee's day rains for all orders; nobody's anger changes.
        states(c, 4, 1, 1, 7, 0, 0, 1, 20, 1, 0, 100);
        Check.due("anger", c.state(0, 0, 0, 4, 21), 0);
        Check.due("anger", c.state(0, 0, 0, 4, 22), 0);
        states(c, 6, 2, 3, 7, 0, 0, 1, 20, 2, 0, 0);
        states(c, 7, 3, 3, 7, 0, 0, 1, 20, 3, 0, 0);
        states(c, 9, 3, 3, 3, 0, 0, 1, 20, 3, 1, 0, 2, 1, 0);
        c = of("minister 5 27 0 0; minister 5 0 1 0; minister 9 0 1 0; feud 0 1; want 1 spring 1 0 0; quota 5;");
        Check.told(c, 1, "");
        Check.told(c, 2, "move 0 1 0 0; move 1 9 9 9;");
        Check.due("by spite, and by wants", c.state(0, 0, 0, 1, 3), 6);
        Check.due("stop: who resigned", c.stop(0, 0, 0), 1);
        c = of("minister 5 27 0 0; minister 5 0 1 0; veto 1; quota 5;");
        Check.told(c, 1, "");
        Check.told(c, 2, "move 0 1 0 0; dismiss 1; move 0 2 0 0;");
        Check.due("a veto of one who is there", c.state(0, 0, 0, 1, 7), 1);
        Check.due("a veto of one who is not", c.state(0, 0, 0, 3, 9), 200);
        Check.due("a veto of one who is not", c.state(0, 0, 0, 3, 7), 1);
    }

    private static void stateEdges() {
        WindCabinet c = three();
        Check.told(c, 1, "");
        Check.told(c, 2, "pass; move 5 0 0 0; pass;");
        Check.due("just at stop", c.state(0, 0, 0, 1, 0), 1);
        Check.due("behind stop", c.state(0, 0, 0, 2, 0), -2);
        Check.due("behind all", c.state(0, 0, 0, 3, 0), -2);
        for (int other : new int[] {-1, 4, LEAST, MOST}) {
            Check.due("no such state", c.state(0, 0, 0, other, 0), -2);
            Check.due("no such republic", c.state(other, 0, 0, 0, 0), -2);
            Check.due("no such orders", c.state(0, other, 0, 0, 0), -2);
            Check.due("no such year", c.state(0, 0, other, 0, 0), -2);
        }
        for (int what : new int[] {-1, 13, 19, 23, 25, LEAST, MOST}) {
            Check.due("another what", c.state(0, 0, 0, 0, what), -2);
        }
        c = of("");
        Check.told(c, 1, "");
        Check.told(c, 2, "pass;");
        states(c, 1, 1, 0, 0, 0, 49, 51, 20, 1, 1, 100, 0, 0, 0);
        Check.due("anger of nobody", c.state(0, 0, 0, 1, 20), -2);
    }

    // ---- promises 15 to 17

    private static void agreed() {
        // The second one's yield of 2 about 3 3 3: himself 1 day, 6 off by 1, 18 off by 2.
        WindCabinet c = of("minister 5 0 0 0; minister 5 2 0 0; want 1 autumn 3 3 3; quota 10;");
        Check.due("how many", c.agreed(0, NONE, 0, 2, 0), 25);
        Check.due("the wettest", c.agreed(0, NONE, 0, 2, 1), 533);
        Check.due("the finest", c.agreed(0, NONE, 0, 2, 2), 335);
        Check.told(c, 1, "no rain above 4; sum 9; after rain 0 rain 0;");
        // Of rain 4: 4 3 3 is too much, 4 2 3 and 4 3 2 are not, and the least wind goes first.
        Check.due("under orders: the wettest", c.agreed(0, 0, 0, 2, 1), 423);
        Check.due("under orders: the finest", c.agreed(0, 0, 0, 2, 2), 234);
        // 3 3 3; 3 off by 1 below; off by 2: 3 lowered by 2, 3 by 1 and 1, 6 raised and lowered, less rain 4 or 5: none.
        Check.due("under orders: how many", c.agreed(0, 0, 0, 2, 0), 1 + 3 + 3 + 3 + 6);
        Check.due("the second moves: what the first wants alone", c.agreed(0, NONE, 1, 2, 0), 1);
        Check.due("the second moves: the wettest", c.agreed(0, NONE, 1, 2, 1), 0);
        Check.told(c, 1, "no sun below 1;");
        Check.due("no day: how many", c.agreed(0, 1, 1, 2, 0), 0);
        Check.due("no day: the wettest", c.agreed(0, 1, 1, 2, 1), NONE);
        Check.due("no day: the finest", c.agreed(0, 1, 1, 2, 2), NONE);
        for (int other : new int[] {-2, 4, LEAST, MOST}) {
            Check.due("no such republic", c.agreed(other, NONE, 0, 2, 0), -2);
            Check.due("no such orders", c.agreed(0, other, 0, 2, 0), -2);
            Check.due("no such minister", c.agreed(0, NONE, other, 2, 0), -2);
            Check.due("no such season", c.agreed(0, NONE, 0, other, 0), -2);
            Check.due("another what", c.agreed(0, NONE, 0, 2, other), -2);
        }
        Check.due("another what", c.agreed(0, NONE, 0, 2, 3), -2);
        Check.due("another what", c.agreed(0, NONE, 0, 2, -1), -2);
        c = of("minister 9 0 0 0; quota 9; cloud 4; heat 97;");
        // Rain 0 .. 4; sun less wind is at most 2: of 100 couples 28 have more.
        Check.due("that nature can", c.agreed(0, NONE, 0, 0, 0), 5 * 72);
        Check.due("the wettest", c.agreed(0, NONE, 0, 0, 1), 400);
        Check.due("the finest, by least rain, then wind", c.agreed(0, NONE, 0, 0, 2), 79);
        c = of("minister 9 0 0 0; quota 9; heat 3;");
        Check.due("not too cold", c.agreed(0, NONE, 0, 0, 0), 10 * (100 - 21));
    }

    private static void power() {
        WindCabinet c = three();
        // Votes 5, 3, 2 of 6: the first by 4 of 6 rows, the others by 1 each.
        Check.due("first", c.power(0, 0, false), 2);
        Check.due("of", c.power(0, 0, true), 3);
        Check.due("second", c.power(0, 1, false), 1);
        Check.due("of", c.power(0, 1, true), 6);
        Check.due("third", c.power(0, 2, true), 6);
        Check.due("no such minister", c.power(0, 3, false), NONE);
        Check.due("no such minister", c.power(0, -1, true), NONE);
        Check.due("no such republic", c.power(1, 0, false), NONE);
        Check.due("no such republic", c.power(-1, 0, true), NONE);
        c = of("minister 9 0 0 0; minister 1 0 0 0; quota 9; veto 1;");
        Check.due("all by one", c.power(0, 0, false), 1);
        Check.due("of", c.power(0, 0, true), 1);
        Check.due("nothing, the veto aside", c.power(0, 1, false), 0);
        Check.due("in least terms", c.power(0, 1, true), 1);
        c = of("minister 9 0 0 0; minister 1 0 0 0; quota 60;");
        Check.due("never the quota", c.power(0, 0, false), 0);
        c = of("minister 1 0 0 0;".repeat(5) + "minister 3 0 0 0; quota 5;");
        // The sixth by places 3, 4, 5 of 6, each of the others by a tenth.
        Check.due("the greatest of six", c.power(0, 5, false), 1);
        Check.due("of", c.power(0, 5, true), 2);
        Check.due("a small one of six", c.power(0, 0, false), 1);
        Check.due("of", c.power(0, 0, true), 10);
    }

    private static void coalition() {
        WindCabinet c = three();
        Check.due("how many", c.coalition(0, NONE), 2);
        Check.due("by numbers", c.coalition(0, 0), 3);
        Check.due("by numbers", c.coalition(0, 1), 5);
        Check.due("no more", c.coalition(0, 2), -3);
        Check.due("key", c.coalition(0, -2), 1);
        for (int other : new int[] {-3, LEAST, MOST}) {
            Check.due("none such", c.coalition(0, other), -3);
            Check.due("no such republic", c.coalition(other, 0), -3);
        }
        Check.due("no such republic", c.coalition(1, NONE), -3);
        Check.due("no such republic", c.coalition(1, -2), -3);
        c = of("minister 1 0 0 0; minister 2 0 0 0; quota 4; veto 0;");
        Check.due("never the quota: how many", c.coalition(0, NONE), 0);
        Check.due("never the quota: key", c.coalition(0, -2), 3);
        c = of("minister 9 0 0 0; minister 9 0 0 0; quota 9; veto 0;");
        Check.due("each alone", c.coalition(0, NONE), 2);
        Check.due("each alone", c.coalition(0, 1), 2);
        Check.due("no key, vetoes aside", c.coalition(0, -2), 0);
        c = of("");
        Check.due("nobody: how many", c.coalition(0, NONE), 0);
        Check.due("nobody: key", c.coalition(0, -2), 0);
    }

    // ---- promises 18 to 20

    private static void bribe() {
        // In spring 9 0 2 by the third: off by 5, 8; the first is 2 above his yield at 1, the second 4 above at 2.
        WindCabinet c = three();
        Check.due("the least", c.bribe(0, 2, 0, 9, 0, 2, false), 2);
        Check.due("whom", c.bribe(0, 2, 0, 9, 0, 2, true), 1);
        Check.due("it passes anyway", c.bribe(0, 0, 0, 2, 0, 2, false), 0);
        Check.due("nobody", c.bribe(0, 0, 0, 2, 0, 2, true), 0);
        c = of("minister 5 1 0 3; minister 5 0 0 1; minister 5 0 0 0; feud 0 1; spite 9; quota 10;");
        // By the first, 0 0 1: the second is 1 above 0 less 9; the third is 1 above 0, for nothing.
        Check.due("for nothing", c.bribe(0, 0, 0, 0, 0, 1, false), 0);
        Check.due("whom for nothing", c.bribe(0, 0, 0, 0, 0, 1, true), 4);
        c = of("minister 5 1 0 3; minister 5 0 0 1; feud 0 1; spite 9; quota 10;");
        Check.due("above his yield less spite", c.bribe(0, 0, 0, 0, 0, 1, false), 10);
        Check.due("even the day that he wants", c.bribe(0, 0, 0, 0, 0, 0, false), 9);
        Check.due("by the other one", c.bribe(0, 1, 0, 0, 0, 0, false), 24);
        c = of("minister 5 1 0 3; minister 5 0 0 1; minister 5 0 0 1; quota 10;");
        Check.due("of several the least", c.bribe(0, 0, 0, 9, 9, 9, true), 2);
        c = of("minister 9 1 0 3; minister 5 0 0 2; minister 5 0 0 1; quota 9; veto 1;");
        Check.due("a veto is to be bought", c.bribe(0, 0, 0, 0, 0, 3, false), 6);
        Check.due("whom", c.bribe(0, 0, 0, 0, 0, 3, true), 2);
        c = of("minister 9 1 0 3; minister 5 0 0 2; quota 15;");
        Check.due("by none", c.bribe(0, 0, 0, 0, 0, 3, false), NONE);
        Check.due("by none: whom", c.bribe(0, 0, 0, 0, 0, 3, true), NONE);
        Check.due("no such minister", c.bribe(0, 2, 0, 0, 0, 3, false), NONE);
        Check.due("no such season", c.bribe(0, 0, 4, 0, 0, 3, true), NONE);
        Check.due("no such republic", c.bribe(1, 0, 0, 0, 0, 3, true), NONE);
        Check.due("another amount", c.bribe(0, 0, 0, 0, 10, 3, true), NONE);
    }

    private static void lobby() {
        // One minister of price 3, whose own motion passes: bathers buy him, farmers buy him back.
        WindCabinet c = of("minister 9 0 0 3; quota 9;");
        Check.due("round and round", c.lobby(0, 0, 0, 0, 0, 0, NONE), 0);
        c = of("minister 9 0 0 0; quota 9;");
        // For nothing farmers hold him, whether bathers buy him too or not: he would agree.
        Check.due("for nothing", c.lobby(0, 0, 0, 0, 0, 0, NONE), 2);
        Check.due("both buy him", c.lobby(0, 0, 0, 0, 0, 0, 0), 0);
        Check.due("farmers alone buy him", c.lobby(0, 0, 0, 0, 0, 0, 1), 1);
        Check.due("no more", c.lobby(0, 0, 0, 0, 0, 0, 2), NONE);
        c = of("minister 5 27 0 0; minister 5 27 0 0; minister 5 27 0 0; quota 5;");
        // Two of three always agree: all that is for nothing rests, 4 * 4 couples, by numbers.
        Check.due("whatever they do", c.lobby(0, 0, 0, 0, 0, 0, NONE), 16);
        Check.due("the fifth", c.lobby(0, 0, 0, 0, 0, 0, 4), 7);
        Check.due("nobody and nobody", c.lobby(0, 0, 0, 0, 0, 0, 15), 7 * 3 + 3);
        c = of("minister 5 27 0 9; minister 5 27 0 9; minister 5 27 0 9; quota 5;");
        Check.due("nobody is worth his price", c.lobby(0, 0, 0, 0, 0, 0, NONE), 1);
        Check.due("nobody", c.lobby(0, 0, 0, 0, 0, 0, 0), 24);
        c = of("minister 9 0 0 9; minister 9 0 0 4; minister 1 0 0 1; quota 18; veto 2;");
        // 9 9 9 by the first: quota and veto fail, one bought does not help: nobody buys.
        Check.due("too far from passing", c.lobby(0, 0, 0, 9, 9, 9, NONE), 1);
        Check.due("nobody", c.lobby(0, 0, 0, 9, 9, 9, 0), 24);
        for (int other : new int[] {-2, 49, LEAST, MOST}) {
            Check.due("none such", c.lobby(0, 0, 0, 9, 9, 9, other), NONE);
            Check.due("no such republic", c.lobby(other, 0, 0, 9, 9, 9, NONE), NONE);
            Check.due("no such minister", c.lobby(0, other, 0, 9, 9, 9, NONE), NONE);
            Check.due("no such season", c.lobby(0, 0, other, 9, 9, 9, NONE), NONE);
            Check.due("another amount", c.lobby(0, 0, 0, other, 9, 9, NONE), NONE);
        }
    }

    private static void bargain() {
        WindCabinet c = three();
        Check.told(c, 5, "share 0 60; share 1 10; share 2 40; share 5 99; share 1 39;");
        int[] shares = {60, 39, 40, 0, 0, 99};
        for (int m = 0; m < 6; m++) {
            Check.due("share " + m, c.bargain(0, 0, m), shares[m]);
        }
        // Sets of 6 votes: 0 and 1 with 99, 0 and 2 with 100, all with 139.
        Check.due("who would leave", c.bargain(0, 0, 10), 3);
        Check.due("how many sets", c.bargain(0, 0, 11), 1);
        Check.told(c, 5, "share 0 99; share 1 1; share 2 1;");
        Check.due("nobody would", c.bargain(0, 1, 10), NONE);
        Check.due("no set", c.bargain(0, 1, 11), 0);
        Check.tell(c, 5, 1, "");
        Check.due("without shares", c.bargain(0, 1, 10), 3);
        Check.due("without shares", c.bargain(0, 1, 11), 3);
        for (int other : new int[] {-1, 6, 9, 12, LEAST, MOST}) {
            Check.due("another what", c.bargain(0, 0, other), -2);
            Check.due("no such republic", c.bargain(other, 0, 10), -2);
            Check.due("no such republic", c.bargain(other, 0, 0), -2);
            Check.due("no such bargain", c.bargain(0, other, 0), -2);
        }
    }

    // ---- promises 21 to 24

    private static void was() {
        WindCabinet c = new WindCabinet();
        Check.due("there is none such", c.was(0, NONE, 0), -2);
        Check.told(c, 4, "was winter 1 2 3; was spring 9 0 9; was winter 1 2 3;");
        int[][] rows = {{3, 1, 2, 3}, {0, 9, 0, 9}, {3, 1, 2, 3}};
        Check.due("how many", c.was(0, NONE, 0), 3);
        for (int k = 0; k < rows.length; k++) {
            for (int what = 0; what < 4; what++) {
                Check.due("day " + k + ", " + what, c.was(0, k, what), rows[k][what]);
            }
        }
        Check.due("how many of nothing", c.was(0, NONE, 1), -2);
        for (int other : new int[] {-2, 4, LEAST, MOST}) {
            Check.due("no such day", c.was(0, other, 0), -2);
            Check.due("another what", c.was(0, 0, other), -2);
            Check.due("there is none such", c.was(other, 0, 0), -2);
        }
        Check.due("no such day", c.was(0, 3, 0), -2);
    }

    private static void nature() {
        WindCabinet c = of("cloud 5; ground 0; heat 90;");
        Check.told(c, 4, "was spring 5 0 3; was summer 3 0 6; was autumn 5 0 0; was winter 0 9 9;");
        // Cloud 5, 3, then 0 and 6 up again, and 5: all can be; heat 93, 99, 99, 99.
        Check.due("none is wrong", c.nature(0, 0, 0), NONE);
        Check.due("nothing to mend", c.nature(0, 0, 1), 0);
        Check.due("rain as it is", c.nature(0, 0, 11), 3);
        Check.due("rain as it is", c.nature(0, 0, 12), 5);
        Check.due("no such day", c.nature(0, 0, 14), -2);
        Check.tell(c, 4, 0, "was spring 1 0 3; was summer 0 0 7;");
        Check.due("too hot", c.nature(0, 0, 0), 1);
        Check.due("no less rain helps", c.nature(0, 0, 1), NONE);
        Check.due("no rain then", c.nature(0, 0, 10), -2);
        Check.tell(c, 4, 0, "was spring 6 0 0; was summer 0 0 7;");
        Check.due("the first wrong one", c.nature(0, 0, 0), 0);
        Check.due("just not too hot", c.nature(0, 0, 1), 1);
        Check.tell(c, 4, 0, "");
        Check.due("no days: wrong", c.nature(0, 0, 0), NONE);
        Check.due("no days: mended", c.nature(0, 0, 1), 0);
        Check.due("no days: rain", c.nature(0, 0, 10), -2);
        for (int other : new int[] {-1, 2, 9, 18, LEAST, MOST}) {
            Check.due("another what", c.nature(0, 0, other), -2);
            Check.due("no such republic", c.nature(other, 0, 0), -2);
            Check.due("no such summer", c.nature(0, other, 0), -2);
        }
    }

    private static void natureMended() {
        WindCabinet c = of("cloud 4; ground 0; heat 0;");
        Check.told(c, 4, "was spring 3 0 1; was spring 3 0 0; was spring 2 0 0;");
        // Cloud 4, rain 3, up 1: 2; then 3 are too many. In all 8 are told, and 5 can be: 3 2 0 first.
        Check.due("wrong", c.nature(0, 0, 0), 1);
        Check.due("mended", c.nature(0, 0, 1), 3);
        Check.due("the first day's rain", c.nature(0, 0, 10), 3);
        Check.due("the second day's rain", c.nature(0, 0, 11), 2);
        Check.due("the third day's rain", c.nature(0, 0, 12), 0);
        Check.due("no such day", c.nature(0, 0, 13), -2);
        Check.told(c, 4, "was spring 9 0 0; was spring 1 0 2; was spring 9 0 9;");
        Check.due("wrong on the first day", c.nature(0, 1, 0), 0);
        // 4 of 9; then 0 of 1, and 2 go up; then 2 of 9.
        Check.due("mended on all days", c.nature(0, 1, 1), 5 + 1 + 7);
        Check.due("first", c.nature(0, 1, 10), 4);
        Check.due("second", c.nature(0, 1, 11), 0);
        Check.due("third", c.nature(0, 1, 12), 2);
        Check.tell(c, 4, 1, "was spring 0 1 0; was spring 9 0 0;");
        Check.due("too cold", c.nature(0, 1, 0), 0);
        Check.due("too cold to mend", c.nature(0, 1, 1), NONE);
    }

    private static void seats() {
        WindCabinet c = of("minister 1 0 0 0; minister 1 0 0 0; minister 1 0 0 0; minister 1 0 0 0;"
                + "want 0 spring 1 1 1; want 1 spring 2 2 2; want 2 spring 1 3 3; want 3 spring 4 4 4;"
                + "want 0 summer 5 5 5; want 1 summer 6 6 6; want 2 summer 7 7 7; want 3 summer 8 8 8;");
        Check.told(c, 4, "was spring 1 2 4;");
        // Wind's is the second, sun's the fourth, rain's the first or the third.
        Check.due("how many", c.seats(0, 0, NONE), 2);
        Check.due("by numbers", c.seats(0, 0, 0), 6 + 3);
        Check.due("by numbers", c.seats(0, 0, 1), 72 + 6 + 3);
        Check.due("no more", c.seats(0, 0, 2), -4);
        Check.due("summer would tell", c.seats(0, 0, -2), 1);
        Check.due("by two proposals", c.seats(0, 0, -3), 2);
        Check.told(c, 4, "was spring 1 2 4; was summer 7 6 8;");
        Check.due("one fits", c.seats(0, 1, NONE), 1);
        Check.due("the third's", c.seats(0, 1, 0), 81);
        Check.due("all alike: the least season", c.seats(0, 1, -2), 0);
        Check.due("one proposal", c.seats(0, 1, -3), 1);
        Check.tell(c, 4, 1, "was spring 1 1 1;");
        Check.due("unlike ministers", c.seats(0, 1, NONE), 0);
        Check.due("none: tells", c.seats(0, 1, -2), NONE);
        Check.due("none: proposals", c.seats(0, 1, -3), 0);
        Check.due("none: the first", c.seats(0, 1, 0), -4);
        Check.tell(c, 4, 1, "");
        Check.due("all fit", c.seats(0, 1, NONE), 24);
        Check.due("summer's are all unlike", c.seats(0, 1, -3), 24);
        Check.due("the first of all", c.seats(0, 1, 0), 8);
        Check.due("the last of all", c.seats(0, 1, 23), 108 + 12 + 1);
        for (int other : new int[] {-4, LEAST, MOST}) {
            Check.due("none such", c.seats(0, 1, other), -4);
            Check.due("no such republic", c.seats(other, 1, NONE), -4);
            Check.due("no such summer", c.seats(0, other, NONE), -4);
        }
        c = of("minister 1 0 0 0; minister 1 0 0 0;");
        Check.told(c, 4, "");
        Check.due("two ministers", c.seats(0, 0, NONE), 0);
        Check.due("two ministers: tells", c.seats(0, 0, -2), NONE);
    }

    private static void reshuffle() {
        // Only the third wants rain, in spring and autumn, where the others would yield; in winter they would not.
        WindCabinet c = of("minister 5 4 0 0; minister 5 4 0 0; minister 5 0 0 0; quota 15; want 2 spring 2 0 0;"
                + "want 2 autumn 4 0 0; want 2 winter 5 0 0;");
        Check.due("the least of several", c.reshuffle(0, false), 72 + 1);
        Check.due("in how many", c.reshuffle(0, true), 2);
        c = of("minister 5 4 0 0; minister 5 4 0 0; minister 5 4 0 0; want 0 spring 1 0 0; want 1 spring 1 0 0;"
                + "want 1 summer 9 1 0; quota 15; spite 9; feud 0 2;");
        // The second's rain passes in spring; the first's not, for the third's spite.
        Check.due("moved by who has rain's office", c.reshuffle(0, false), 36 + 2);
        Check.due("in how many", c.reshuffle(0, true), 1);
        c = of("minister 5 0 0 0; minister 5 0 0 0; minister 5 0 0 0;");
        Check.due("never rain", c.reshuffle(0, false), 8);
        Check.due("never rain", c.reshuffle(0, true), 0);
        c = of("minister 5 0 0 0; minister 5 0 0 0; want 0 spring 1 0 0;");
        Check.due("fewer than three", c.reshuffle(0, false), NONE);
        Check.due("fewer than three", c.reshuffle(0, true), NONE);
        for (int none : new int[] {-1, 1, LEAST, MOST}) {
            Check.due("there is none such", c.reshuffle(none, false), NONE);
            Check.due("there is none such", c.reshuffle(none, true), NONE);
        }
    }

    // ---- promises 25 to 27

    private static void leak() {
        WindCabinet c = new WindCabinet();
        Check.due("there is none such", c.leak(0, NONE, 0), -2);
        Check.told(c, 3, "said 5 yes; said 0 no; said 5 no;");
        Check.due("how many", c.leak(0, NONE, 0), 3);
        int[][] rows = {{5, 1}, {0, 0}, {5, 0}};
        for (int k = 0; k < rows.length; k++) {
            Check.due("who " + k, c.leak(0, k, 0), rows[k][0]);
            Check.due("what " + k, c.leak(0, k, 1), rows[k][1]);
        }
        Check.due("how many of nothing", c.leak(0, NONE, 1), -2);
        for (int other : new int[] {-2, 3, LEAST, MOST}) {
            Check.due("no such leak", c.leak(0, other, 0), -2);
            Check.due("another what", c.leak(0, 0, other), -2);
            Check.due("there is none such", c.leak(other, 0, 0), -2);
        }
        Check.due("another what", c.leak(0, 0, 2), -2);
    }

    private static void fits() {
        WindCabinet c = of("minister 5 0 0 0; minister 5 2 0 0; minister 5 1 0 0; want 1 autumn 3 3 3; want 2 autumn 3 3 4;");
        Check.told(c, 3, "said 1 yes;");
        // 25 days are off by 2 or less, each with rain.
        int[] due = {25, 1, 1, 0};
        for (int what = 0; what < 4; what++) {
            Check.due("one leak, " + what, c.fits(0, 0, 0, 2, what), due[what]);
        }
        for (int kind = 0; kind < 3; kind++) {
            Check.due("the least", c.fits(0, 0, 0, 2, 10 + kind), 1);
            Check.due("the most", c.fits(0, 0, 0, 2, 20 + kind), 5);
        }
        Check.told(c, 3, "said 2 yes; said 1 no;");
        // Off by 1 from 3 3 4 and by more than 2 from 3 3 3: none, but 7 without the second, 975 without the first.
        Check.due("2 yes, 1 no", c.fits(0, 1, 0, 2, 0), 0);
        Check.due("no day: likely", c.fits(0, 1, 0, 2, 1), NONE);
        Check.due("no day: likely", c.fits(0, 1, 0, 2, 2), NONE);
        Check.due("no day: the least", c.fits(0, 1, 0, 2, 10), NONE);
        Check.due("no day: the most", c.fits(0, 1, 0, 2, 22), NONE);
        Check.due("either is a lie", c.fits(0, 1, 0, 2, 3), 3);
        Check.tell(c, 3, 1, "said 0 no; said 2 yes; said 0 yes; said 2 yes;");
        Check.due("the mover says no", c.fits(0, 1, 0, 2, 3), 1);
        Check.due("by another mover he need not agree", c.fits(0, 1, 2, 2, 3), 5);
        Check.tell(c, 3, 1, "said 0 no; said 0 no;");
        Check.due("two lies: neither alone", c.fits(0, 1, 0, 2, 3), 0);
        Check.tell(c, 3, 1, "");
        Check.due("no leaks", c.fits(0, 1, 0, 2, 0), 1000);
        Check.due("no leaks: likely", c.fits(0, 1, 0, 2, 1), 9);
        Check.due("no leaks: of", c.fits(0, 1, 0, 2, 2), 10);
        Check.tell(c, 3, 1, "said 1 yes;");
        // In spring: 10 days off by 2 or less, of these 6 without rain.
        Check.due("some have rain", c.fits(0, 1, 0, 0, 1), 2);
        Check.due("of", c.fits(0, 1, 0, 0, 2), 5);
        Check.tell(c, 3, 1, "said 0 yes;");
        Check.due("only 0 0 0", c.fits(0, 1, 1, 0, 1), 0);
        Check.due("of", c.fits(0, 1, 1, 0, 2), 1);
        Check.tell(c, 3, 1, "said 3 no;");
        Check.due("one told of is not there", c.fits(0, 1, 0, 0, 0), -2);
        for (int other : new int[] {-1, 4, 9, 13, 19, 23, LEAST, MOST}) {
            Check.due("another what", c.fits(0, 0, 0, 0, other), -2);
            Check.due("no such republic", c.fits(other, 0, 0, 0, 0), -2);
            Check.due("no such leaks", c.fits(0, other, 0, 0, 0), -2);
            Check.due("no such minister", c.fits(0, 0, other, 0, 0), -2);
            Check.due("no such season", c.fits(0, 0, 0, other, 0), -2);
        }
    }

    private static void drawn() {
        WindCabinet c = of("minister 9 27 0 0; quota 9; cloud 20; ground 0; heat 50;");
        int[] before = {20, 0, 50, 1, 0, 0, 0};
        for (int what = 0; what < 7; what++) {
            Check.due("no days, " + what, c.drawn(0, 5, 0, what), before[what]);
        }
        // From seed 0: 0, 54236, 42756, 54885; 3498, 49695, 16045, 52509; 44890, 8410, 45029, 27052, so that
        // the days are 6 6 5, 5 5 9 (of which 6 suns find water), 0 9 2.
        int[] behind = {20, 0, 46, 1, 0, 11, 1};
        for (int what = 0; what < 7; what++) {
            Check.due("three days, " + what, c.drawn(0, 0, 3, what), behind[what]);
        }
        Check.due("ground behind one day", c.drawn(0, 0, 1, 1), 1);
        Check.due("heat behind two days", c.drawn(0, 0, 2, 2), 53);
        c = of("minister 1 0 1 0; minister 9 0 0 0; quota 9;");
        // The second one moves 1 4 5, the first resigns, the second moves 5 2 0, and 3 5 2.
        int[] alone = {48, 52, 16, 2, 0, 9, 0};
        for (int what = 0; what < 7; what++) {
            Check.due("by the second one, " + what, c.drawn(0, -559038737, 3, what), alone[what]);
        }
        Check.due("who is there behind one day", c.drawn(0, -559038737, 1, 3), 2);
        c = of("cloud 3; ground 0;");
        Check.due("nobody there: the committee's", c.drawn(0, 7, 60, 4), 60);
        Check.due("their rain", c.drawn(0, 7, 60, 5), 3);
        Check.due("the longest row without", c.drawn(0, 7, 60, 6), 57);
        Check.due("nobody", c.drawn(0, 7, 60, 3), 0);
        c = of("minister 1 0 0 0; quota 60; cloud 4;");
        Check.due("nothing ever passes", c.drawn(0, -1, 9, 4), 9);
        Check.due("nothing ever passes", c.drawn(0, -1, 9, 6), 5);
        for (int other : new int[] {-1, 61, LEAST, MOST}) {
            Check.due("another n", c.drawn(0, 0, other, 0), -2);
            Check.due("another what", c.drawn(0, 0, 1, other), -2);
            Check.due("there is none such", c.drawn(other, 0, 1, 0), -2);
        }
        Check.due("another what", c.drawn(0, 0, 1, 7), -2);
    }

    // ---- promises 28 to 30

    private static void count() {
        WindCabinet c = new WindCabinet();
        for (int sort = 0; sort < 6; sort++) {
            Check.told(c, sort, "");
            Check.due("one", c.count(sort), 1);
            Check.told(c, sort, "");
            Check.due("two", c.count(sort), 2);
        }
        for (int other : new int[] {-1, 6, LEAST, MOST}) {
            Check.due("another sort", c.count(other), -2);
        }
    }

    private static void image() {
        WindCabinet c = three();
        for (int other : new int[] {-1, 3, LEAST, MOST}) {
            Check.due("another image", c.image(other), false);
            Check.due("another image", c.again(other), false);
        }
        Check.due("image 2", c.image(2), true);
        Check.due("no image 1", c.again(1), false);
        Check.tell(c, 0, 0, "quota 59;");
        Check.due("image 2 anew", c.image(2), true);
        Check.tell(c, 0, 0, "quota 58;");
        Check.due("again", c.again(2), true);
        Check.due("as it was at the later image", c.republic(0, 1), 59);
    }

    private static void again() {
        WindCabinet c = three();
        Check.told(c, 1, "sum 1;");
        Check.told(c, 2, "pass;");
        Check.told(c, 3, "said 1 no;");
        Check.told(c, 4, "was winter 1 2 3;");
        Check.told(c, 5, "share 3 4;");
        Check.tell(c, 5, 0, "share 3 ;");
        Check.feed(c, 0, "heat 7;");
        c.image(0);
        for (int sort = 0; sort < 6; sort++) {
            Check.tell(c, sort, 0, "");
            Check.told(c, sort, "");
        }
        c.image(1);
        Check.due("again", c.again(0), true);
        Check.due("the tape", c.end(7), 7);
        Check.due("no longer", c.end(8), NONE);
        Check.due("the fault", c.fault(0), 1);
        Check.due("its place", c.fault(1), 8);
        Check.due("a minister", c.minister(0, 2, 1), 6);
        Check.due("a want", c.minister(0, 1, 21), 3);
        Check.due("a feud", c.minister(0, 1, 5), 1);
        Check.due("a number", c.republic(0, 3), 7);
        Check.due("an order", c.order(0, 0, 1), 1);
        Check.due("a deed", c.deed(0, 0, 0), 5);
        Check.due("a leak", c.leak(0, 0, 0), 1);
        Check.due("a day", c.was(0, 0, 3), 3);
        Check.due("a share", c.bargain(0, 0, 3), 4);
        for (int sort = 0; sort < 6; sort++) {
            Check.due("how many", c.count(sort), 1);
        }
        Check.due("the tape's text", c.text(0, NONE), 1);
        Check.due("its heat", c.republic(1, 5), 7);
        Check.due("the other image stays", c.again(1), true);
        Check.due("how many of it", c.count(0), 2);
        Check.due("how many ministers of it", c.republic(0, 0), 0);
        Check.due("this one stays, too", c.again(0), true);
        Check.due("as it was", c.count(0), 1);
        Check.due("as it was", c.republic(0, 0), 3);
    }
}

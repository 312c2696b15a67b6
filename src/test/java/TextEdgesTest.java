import java.util.ArrayList;
import java.util.Arrays;
import java.util.List;

/**
 * Terms 1, promises 1 to 5 and 28 to 30, sentence by sentence: what just may be and what just may not, rows that
 * are empty or full, and calls that are refused with what they leave as it was. Each block's first words are the
 * document's own.
 */
public final class TextEdgesTest {
    private static final int NONE = WindCabinet.NONE;
    private static final int LEAST = Integer.MIN_VALUE;
    private static final int MOST = Integer.MAX_VALUE;
    private static final int SORTS = 6;
    private static final String MINISTER = "minister 1 0 0 0;";

    /** All lines of each sort's text, tokens apart by one blank. */
    private static final String[][] LINES = {
        {"minister 1 2 3 4 ;", "want 0 spring 1 2 3 ;", "veto 0 ;", "feud 0 1 ;", "office rain 0 ;", "quota 1 ;",
            "spite 1 ;", "cloud 1 ;", "ground 1 ;", "heat 1 ;"},
        {"no rain above 1 ;", "no wind below 1 in winter ;", "sum 1 ;", "after rain 1 sun 1 ;"},
        {"move 0 1 2 3 ;", "season summer ;", "office wind 0 ;", "dismiss 0 ;", "recall 0 ;", "pass ;"},
        {"said 0 yes ;", "said 0 no ;"},
        {"was autumn 1 2 3 ;"},
        {"share 0 1 ;"},
    };
    private static final List<String> KINDS = List.of("rain", "wind", "sun");
    private static final List<String> SEASONS = List.of("spring", "summer", "autumn", "winter");
    private static final List<String> HEIGHTS = List.of("above", "below");
    private static final List<String> ANSWERS = List.of("yes", "no");

    private TextEdgesTest() {
    }

    public static void main(String[] args) {
        callsUpTo512();
        newObject();
        tapeOf600();
        bytesOfNumbers();
        endOfTape();
        textsPlaces();
        textsRefused();
        textsWithFault();
        emptyTexts();
        textsTellTheirOwn();
        bytesInsideTokens();
        tokensAsLongAsTheyGo();
        grammarTokenByToken();
        wordsOfOtherSorts();
        choices();
        numbersAtTheirEdges();
        feudsWithOneself();
        limitsOfRows();
        limitsByAnyLine();
        faultsInTheirOrder();
        ministersToldOf();
        laterOnesStrike();
        eachNumberAlone();
        furtherOnes();
        fullTape();
        faultAsked();
        countAsked();
        imagesOfAll();
        imagesRefused();
        imagesStay();
        Check.finish();
    }

    /** "An object is used for at most 512 calls": the last of them is answered as the first. */
    private static void callsUpTo512() {
        WindCabinet c = new WindCabinet();
        for (int call = 1; call < 508; call += 3) {
            c.feed(0x71756f74, 0x61203132, 0x3b202020, 0x20202020, 0x20202020);
            c.text(0, call == 1 ? NONE : 0);
            c.image(call % 3);
        }
        Check.due("call 508", c.republic(0, 1), 12);
        Check.due("call 509", c.text(0, NONE), 1);
        Check.due("call 510", c.count(0), 2);
        Check.due("call 511", c.again(1), true);
        Check.due("call 512", c.count(0), 1);
    }

    // ---- promise 1

    /** "No REPUBLICS, ORDERS, YEARS, LEAKS, SUMMERS, BARGAINS; no images." */
    private static void newObject() {
        WindCabinet c = new WindCabinet();
        for (int sort = 0; sort < SORTS; sort++) {
            Check.due("a new object's count of " + sort, c.count(sort), 0);
        }
        Check.tapeHas("a new object", c, 0);
        Check.due("a new object's fault", c.fault(0), 0);
        Check.due("its place", c.fault(1), NONE);
        for (int k = 0; k < 3; k++) {
            Check.due("a new object's image " + k, c.again(k), false);
        }
        Check.due("republic of none", c.republic(0, 1), NONE);
        Check.due("minister of none", c.minister(0, 0, 0), NONE);
        Check.due("off of none", c.off(0, 0, 0, 0, 0, 0), NONE);
        Check.due("vote of none", c.vote(0, 0, 0, 0, 0, 0, false), NONE);
        Check.due("vote of none", c.vote(0, 0, 0, 0, 0, 0, true), NONE);
        Check.due("order of none", c.order(0, NONE, 0), -2);
        Check.due("broken of none", c.broken(0, 0, 9, 9, 9, NONE), NONE);
        Check.due("deed of none", c.deed(0, NONE, 0), -2);
        Check.due("stop of none", c.stop(0, 0, 0), NONE);
        Check.due("state of none", c.state(0, 0, 0, 0, 0), -2);
        Check.due("agreed of none", c.agreed(0, NONE, 0, 0, 0), -2);
        Check.due("power of none", c.power(0, 0, true), NONE);
        Check.due("coalition of none", c.coalition(0, NONE), -3);
        Check.due("bribe of none", c.bribe(0, 0, 0, 0, 0, 0, false), NONE);
        Check.due("lobby of none", c.lobby(0, 0, 0, 0, 0, 0, NONE), NONE);
        Check.due("bargain of none", c.bargain(0, 0, 0), -2);
        Check.due("was of none", c.was(0, NONE, 0), -2);
        Check.due("nature of none", c.nature(0, 0, 0), -2);
        Check.due("seats of none", c.seats(0, 0, NONE), -4);
        Check.due("reshuffle of none", c.reshuffle(0, true), NONE);
        Check.due("leak of none", c.leak(0, NONE, 0), -2);
        Check.due("fits of none", c.fits(0, 0, 0, 0, 0), -2);
        Check.due("drawn of none", c.drawn(0, 0, 0, 0), -2);
    }

    // ---- promises 2 and 3

    /** "twenty bytes come behind it .. how many it has. NONE, and nothing comes, if there would be more than 600." */
    private static void tapeOf600() {
        WindCabinet c = new WindCabinet();
        for (int i = 1; i <= 30; i++) {
            Check.due("feed " + i, c.feed(0, 0, 0, 0, 0), 20 * i);
        }
        Check.due("feed at 600", c.feed(0, 0, 0, 0, 0), NONE);
        Check.tapeHas("feed at 600", c, 600);
        for (int length : new int[] {599, 590, 581}) {
            c.end(length);
            Check.due("feed at " + length, c.feed(0, 0, 0, 0, 0), NONE);
            Check.tapeHas("feed at " + length, c, length);
        }
        c.end(580);
        Check.due("feed at 580", c.feed(0, 0, 0, 0, 0), 600);
        c.end(579);
        Check.due("feed at 579", c.feed(0, 0, 0, 0, 0), 599);
        refusedFeedLeavesTheBytes();
    }

    private static void refusedFeedLeavesTheBytes() {
        WindCabinet c = new WindCabinet();
        Check.feed(c, 0, " ".repeat(577) + "heat 7;");
        Check.due("feed at 584", c.feed(-1, -1, -1, -1, -1), NONE);
        Check.due("the bytes are as they were", c.text(0, NONE), 0);
        Check.due("the last of them, too", c.republic(0, 5), 7);
    }

    /** "of each number the highest first" */
    private static void bytesOfNumbers() {
        WindCabinet c = new WindCabinet();
        Check.due("feed", c.feed(0x6d696e69, 0x73746572, 0x20342035, 0x20362037, 0x3b202020), 20);
        Check.due("\"minister 4 5 6 7;   \"", c.text(0, NONE), 0);
        for (int what = 0; what < 4; what++) {
            Check.due("number " + what, c.minister(0, 0, what), 4 + what);
        }
        for (int at = 0; at < 20; at++) {
            for (int strange : new int[] {'A', 0, 127, 128, 255}) {
                StringBuilder bytes = new StringBuilder(" ".repeat(20));
                bytes.setCharAt(at, (char) strange);
                Check.faulty(0, bytes.toString(), 1, at);
            }
        }
    }

    /** "The tape has its first n bytes alone: n. NONE if it has not so many, or n is below 0." */
    private static void endOfTape() {
        WindCabinet c = new WindCabinet();
        Check.due("end(0) of an empty tape", c.end(0), 0);
        Check.due("end(1) of an empty tape", c.end(1), NONE);
        c.feed(0, 0, 0, 0, 0);
        for (int n : new int[] {-1, -2, LEAST, 21, 600, 601, MOST}) {
            Check.due("end(" + n + ") of 20", c.end(n), NONE);
            Check.tapeHas("end(" + n + ") of 20", c, 20);
        }
        Check.due("end(19)", c.end(19), 19);
        Check.tapeHas("end(19)", c, 19);
        Check.due("end(0)", c.end(0), 0);
        Check.tapeHas("end(0)", c, 0);
        Check.feed(c, 0, "heat 12;");
        c.end(6);
        Check.feed(c, 6, ";");
        Check.due("what is fed comes behind the first n", c.text(0, NONE), 0);
        Check.due("the first n alone", c.republic(0, 5), 1);
        cutTape("pass;passx;", 4, 4);
        cutTape("pass;passx;", 3, 0);
        cutTape("pass;passx;", 9, 9);
        cutTape("move 0 123;", 8, 8);
        cutTape("move 0 123;", 9, 9);
        cutTape("move 0 123;", 10, 7);
        cutTape("pass    ;", 5, 5);
        cutTape("pass    ;", 4, 4);
        c = new WindCabinet();
        Check.feed(c, 0, "pass;x; ;;12");
        c.end(5);
        Check.due("nothing behind the first n", c.text(2, NONE), 0);
        Check.due("nothing behind the first n", c.deed(0, NONE, 0), 1);
    }

    /** What stood behind the first n bytes is no part of a token, nor a blank. */
    private static void cutTape(String text, int n, int place) {
        WindCabinet c = new WindCabinet();
        Check.feed(c, 0, text);
        c.end(n);
        Check.due(text + " cut to " + n, c.text(2, NONE), NONE);
        Check.due(text + " cut to " + n + ", fault", c.fault(0), 1);
        Check.due(text + " cut to " + n + ", place", c.fault(1), place);
    }

    // ---- promise 4

    private static String anyOf(int sort) {
        return new String[] {"quota 7;", "sum 3;", "pass;", "said 0 no;", "was winter 1 2 3;", "share 0 9;"}[sort];
    }

    /** "a further one (at NONE), or in the place of one: its number"; "at most 2" of each sort, "from 0 on" */
    private static void textsPlaces() {
        for (int sort = 0; sort < SORTS; sort++) {
            WindCabinet c = new WindCabinet();
            Check.due("none to take the place of, sort " + sort, Check.tell(c, sort, 0, anyOf(sort)), -2);
            Check.due("a first one of " + sort, Check.tell(c, sort, NONE, anyOf(sort)), 0);
            Check.due("its place, sort " + sort, Check.tell(c, sort, 0, anyOf(sort)), 0);
            Check.due("still one of " + sort, c.count(sort), 1);
            Check.due("no second one to take the place of, sort " + sort, Check.tell(c, sort, 1, anyOf(sort)), -2);
            Check.due("still one of " + sort, c.count(sort), 1);
            Check.due("a second one of " + sort, Check.tell(c, sort, NONE, anyOf(sort)), 1);
            Check.due("the place of the first of two, sort " + sort, Check.tell(c, sort, 0, ""), 0);
            Check.due("the place of the second, sort " + sort, Check.tell(c, sort, 1, ""), 1);
            Check.due("two of " + sort, c.count(sort), 2);
            Check.due("as many as may be of " + sort, Check.tell(c, sort, NONE, anyOf(sort)), -2);
            for (int at : Check.andWild(-2, -3, 2, 3, 600)) {
                Check.due("no such place " + at + " of " + sort, Check.tell(c, sort, at, anyOf(sort)), -2);
            }
            Check.due("still two of " + sort, c.count(sort), 2);
            for (int other = 0; other < SORTS; other++) {
                Check.due("none of another sort " + other, c.count(other), other == sort ? 2 : 0);
            }
        }
    }

    /** "-2: .. (the tape is empty then, too; no text is read, FAULT 0)" */
    private static void textsRefused() {
        WindCabinet c = Check.of("quota 7;", "sum 3;", "pass;", "said 0 no;", "was winter 1 2 3;", "share 0 9;");
        for (int sort : Check.andWild(-1, -2, 6, 7)) {
            refusedText(c, sort, NONE);
            refusedText(c, sort, 0);
        }
        for (int sort = 0; sort < SORTS; sort++) {
            refusedText(c, sort, 1);
            refusedText(c, sort, -2);
            Check.told(c, sort, anyOf(sort));
        }
        c = Check.of("quota 7;", "sum 3;", "pass;", "said 0 no;", "was winter 1 2 3;", "share 0 9;");
        for (int sort = 0; sort < SORTS; sort++) {
            Check.told(c, sort, anyOf(sort));
            refusedText(c, sort, NONE);
            Check.due("still two of " + sort, c.count(sort), 2);
        }
        Check.due("what was told stays", c.republic(0, 1), 7);
        Check.due("what was told stays", c.order(0, 0, 1), 3);
        Check.due("what was told stays", c.bargain(0, 0, 0), 9);
    }

    /** Behind a text with a fault, so that its fault would show if it stayed. */
    private static void refusedText(WindCabinet c, int sort, int at) {
        Check.tell(c, 0, 0, "x");
        Check.due("a fault ahead", c.fault(0), 1);
        Check.due("sort " + sort + ", at " + at, Check.tell(c, sort, at, "heat 1; x"), -2);
        Check.due("no text is read: fault", c.fault(0), 0);
        Check.due("no text is read: place", c.fault(1), NONE);
        Check.tapeHas("the tape is empty then, too", c, 0);
    }

    /** "The tape is taken (and is empty then) .. NONE: a FAULT." */
    private static void textsWithFault() {
        for (int sort = 0; sort < SORTS; sort++) {
            WindCabinet c = new WindCabinet();
            Check.due("a fault, sort " + sort, Check.tell(c, sort, NONE, anyOf(sort) + "x"), NONE);
            Check.tapeHas("a fault, sort " + sort, c, 0);
            Check.due("nothing further of " + sort, c.count(sort), 0);
            Check.due("without a fault, sort " + sort, Check.tell(c, sort, NONE, anyOf(sort)), 0);
            Check.tapeHas("without a fault, sort " + sort, c, 0);
            Check.due("without: fault", c.fault(0), 0);
            Check.due("in its place, sort " + sort, Check.tell(c, sort, 0, "x"), NONE);
            Check.tapeHas("in its place, sort " + sort, c, 0);
            Check.due("still one of " + sort, c.count(sort), 1);
        }
        WindCabinet c = Check.of("quota 7;", "sum 3;", "pass;", "said 0 no;", "was winter 1 2 3;", "share 0 9;");
        String[] spoilt = {"quota 8; heat 3; quota 0;", "sum 4; sum 28;", "season winter; pass",
                "said 1 yes; said 6 no;",
            "was spring 4 4 4; was", "share 0 8; share 1 7; share 6 0;"};
        for (int sort = 0; sort < SORTS; sort++) {
            Check.due("a fault in the place of one, sort " + sort, Check.tell(c, sort, 0, spoilt[sort]), NONE);
        }
        Check.due("the republic stays", c.republic(0, 1), 7);
        Check.due("all of it", c.republic(0, 5), 20);
        Check.due("the orders stay", c.order(0, 0, 1), 3);
        Check.due("the year stays", c.deed(0, 0, 0), 5);
        Check.due("the leaks stay", c.leak(0, 0, 0), 0);
        Check.due("the summer stays", c.was(0, 0, 0), 3);
        Check.due("the bargain stays", c.bargain(0, 0, 0), 9);
        Check.due("all of it", c.bargain(0, 0, 1), 0);
    }

    /** A text is {..}: no line at all is one, too, and so are blanks alone. */
    private static void emptyTexts() {
        for (String text : new String[] {"", " ", "\n", " \n ".repeat(200)}) {
            for (int sort = 0; sort < SORTS; sort++) {
                WindCabinet c = Check.of("");
                Check.due("an empty text of " + sort, Check.tell(c, sort, NONE, text), sort == 0 ? 1 : 0);
                Check.due("no fault", c.fault(0), 0);
            }
        }
        WindCabinet c = Check.of("", "", "", "", "", "");
        Check.due("no orders", c.order(0, NONE, 0), 0);
        Check.due("no first order", c.order(0, 0, 0), -2);
        Check.due("no deeds", c.deed(0, NONE, 0), 0);
        Check.due("no first deed", c.deed(0, 0, 0), -2);
        Check.due("no leaks", c.leak(0, NONE, 0), 0);
        Check.due("no first leak", c.leak(0, 0, 0), -2);
        Check.due("no days", c.was(0, NONE, 0), 0);
        Check.due("no first day", c.was(0, 0, 0), -2);
        for (int m = 0; m < 6; m++) {
            Check.due("0 at first", c.bargain(0, 0, m), 0);
        }
    }

    /** What one text tells is no other's: not of the one in whose place it comes, nor of one ahead of it. */
    private static void textsTellTheirOwn() {
        String rich = "minister 9 27 9 9;".repeat(6) + "want 0 spring 1 2 3; want 5 winter 4 5 6; veto 0; veto 5;"
                + "feud 0 1;feud 4 5; office rain 5; office wind 4; office sun 3; quota 60; spite 9; cloud 9; ground 8; heat 7;";
        String[] texts = {rich, "after sun 9 wind 8; sum 3;", "move 5 4 3 2; pass;", "said 5 yes; said 4 yes;",
            "was winter 9 8 7; was winter 6 5 4;", "share 0 99; share 5 98;"};
        String[] poor = {MINISTER.repeat(6), "sum 27;", "season spring;", "said 0 no;", "was spring 0 0 0;", ""};
        for (boolean read : new boolean[] {true, false}) {
            WindCabinet c = Check.of(texts);
            for (int sort = 0; sort < SORTS; sort++) {
                if (!read) {
                    Check.tell(c, sort, 0, texts[sort] + "x");
                }
                Check.due("in its place", Check.tell(c, sort, 0, poor[sort]), 0);
                Check.due("another rich one", Check.tell(c, sort, NONE, texts[sort]), 1);
                Check.due("in its place", Check.tell(c, sort, 1, poor[sort]), 1);
            }
            for (int at = 0; at < 2; at++) {
                isPoor(c, at);
            }
        }
    }

    private static void isPoor(WindCabinet c, int at) {
        int[] numbers = {6, 10, 2, 50, 50, 20};
        for (int what = 0; what < 6; what++) {
            Check.due("republic's " + what, c.republic(at, what), numbers[what]);
        }
        for (int kind = 0; kind < 3; kind++) {
            Check.due("office " + kind, c.republic(at, 10 + kind), 0);
        }
        for (int what = 0; what < 22; what++) {
            int due = what == 0 ? 1 : what >= 6 && what <= 9 ? NONE : 0;
            Check.due("the first one's " + what, c.minister(at, 0, what), due);
            Check.due("the last one's " + what, c.minister(at, 5, what), due);
        }
        int[] order = {2, 27, -1, -1, -1};
        int[] deed = {1, 0, -1, -1, -1};
        for (int what = 0; what < 5; what++) {
            Check.due("the order's " + what, c.order(at, 0, what), order[what]);
            Check.due("the deed's " + what, c.deed(at, 0, what), deed[what]);
        }
        for (int what = 0; what < 4; what++) {
            Check.due("the day's " + what, c.was(at, 0, what), 0);
        }
        Check.due("the leak's minister", c.leak(at, 0, 0), 0);
        Check.due("the leak's answer", c.leak(at, 0, 1), 0);
        Check.due("orders", c.order(at, NONE, 0), 1);
        Check.due("deeds", c.deed(at, NONE, 0), 1);
        Check.due("leaks", c.leak(at, NONE, 0), 1);
        Check.due("days", c.was(at, NONE, 0), 1);
        for (int m = 0; m < 6; m++) {
            Check.due("share " + m, c.bargain(0, at, m), 0);
        }
    }

    // ---- tokens

    private static boolean isBlank(int sign) {
        return sign == 10 || sign == 32;
    }

    /** "blanks (10, 32) between: words, rows of letters a .. z; NUMBERS, 1 or 2 digits; ; one byte": all 256 bytes. */
    private static void bytesInsideTokens() {
        for (int sign = 0; sign < 256; sign++) {
            char s = (char) sign;
            boolean letter = sign >= 97 && sign <= 122;
            boolean digit = sign >= 48 && sign <= 57;
            behindWord(s, letter, digit);
            if (isBlank(sign) || digit) {
                WindCabinet c = Check.of("quota 5" + s + ";");
                Check.due("behind a digit " + sign, c.republic(0, 1), digit ? 50 + sign - 48 : 5);
            } else {
                Check.faulty(0, "quota 5" + s + ";", 1, sign == ';' ? 8 : 7);
            }
            if (isBlank(sign)) {
                Check.due("behind a text " + sign, Check.of("quota 5;" + s).republic(0, 1), 5);
                Check.due("ahead of a text " + sign, Check.of(s + "quota 5;").republic(0, 1), 5);
            } else {
                Check.faulty(0, "quota 5;" + s, 1, 8);
                Check.faulty(0, s + "quota 5;", 1, 0);
            }
        }
    }

    private static void behindWord(char s, boolean letter, boolean digit) {
        if (isBlank(s)) {
            Check.due("behind a word " + (int) s, Check.of("quota" + s + "5;").republic(0, 1), 5);
        } else if (digit && s <= '5') {
            Check.due("behind a word " + (int) s, Check.of("quota" + s + "5;").republic(0, 1), (s - 48) * 10 + 5);
        } else if (digit) {
            Check.faulty(0, "quota" + s + "5;", 2, 5);
        } else {
            Check.faulty(0, "quota" + s + "5;", 1, letter ? 0 : 5);
        }
    }

    /** "TOKENS, as long as they go"; "a longer row of digits is no token" */
    private static void tokensAsLongAsTheyGo() {
        Check.faulty(0, "quo ta 5;", 1, 0);
        Check.faulty(0, "quota 1 0;", 1, 8);
        Check.faulty(0, "quota 001;", 1, 6);
        Check.faulty(0, "quota 000;", 1, 6);
        Check.faulty(0, "quota  1234567890;", 1, 7);
        Check.faulty(0, "quota 1" + "0".repeat(593), 1, 6);
        Check.faulty(0, "a".repeat(600), 1, 0);
        Check.faulty(0, "minister 123 4;", 1, 9);
        Check.faulty(0, "minister 12 345;", 1, 12);
        Check.faulty(2, "passpass;", 1, 0);
        Check.faulty(2, "pass;passpass;", 1, 5);
        Check.faulty(2, "seasonsummer;", 1, 0);
        WindCabinet c = Check.of("minister09 08\n7\n\n  6;quota05 ;heat\n00\n;");
        int[] due = {9, 8, 7, 6};
        for (int what = 0; what < 4; what++) {
            Check.due("two digits or one", c.minister(0, 0, what), due[what]);
        }
        Check.due("05", c.republic(0, 1), 5);
        Check.due("00", c.republic(0, 5), 0);
        c = Check.of("", "no rain above 5in winter;no sun below 04 in\nspring ;", "pass;pass ;\n");
        Check.due("a word behind a number", c.order(0, 0, 3), 3);
        Check.due("04", c.order(0, 1, 2), 4);
        Check.due("pass;pass", c.deed(0, NONE, 0), 2);
    }

    // ---- grammar

    private static boolean isNumber(String token) {
        return token.matches("[0-9]{1,2}");
    }

    /** The tokens with which the text goes on where that line has that token. */
    private static List<String> choicesAt(int sort, String[] tokens, int i) {
        if (i == 0) {
            List<String> first = new ArrayList<>();
            for (String line : LINES[sort]) {
                first.add(line.split(" ")[0]);
            }
            return first;
        }
        for (List<String> choices : List.of(KINDS, SEASONS, HEIGHTS)) {
            if (choices.contains(tokens[i])) {
                return choices;
            }
        }
        if (sort == 3 && i == 2) {
            return ANSWERS;
        }
        return sort == 1 && tokens[0].equals("no") && i == 4 ? List.of(";", "in") : List.of(tokens[i]);
    }

    private static List<String> strangers() {
        List<String> strangers = new ArrayList<>(List.of(";", "7", "007", "Z", ":", "-", "x", "lent", "min",
                "rainy", "i", "n"));
        for (String[] lines : LINES) {
            for (String line : lines) {
                for (String token : line.split(" ")) {
                    if (!isNumber(token) && !strangers.contains(token)) {
                        strangers.add(token);
                    }
                }
            }
        }
        strangers.addAll(List.of("wind", "sun", "summer", "below", "no"));
        return strangers;
    }

    private static List<String> nearby(String word) {
        if (!Character.isLetter(word.charAt(0))) {
            return List.of();
        }
        int last = word.length() - 1;
        return List.of(word.substring(0, last) + "a", word + word.charAt(last), word.substring(1) + "a",
                word.substring(0, last) + (char) (word.charAt(last) ^ 1), "Q" + word);
    }

    /** "1 the first byte or token with which no text goes on": at each token of each line, and at each early end. */
    private static void grammarTokenByToken() {
        for (int sort = 0; sort < SORTS; sort++) {
            for (String line : LINES[sort]) {
                String[] tokens = line.split(" ");
                for (int i = 0; i < tokens.length; i++) {
                    String ahead = String.join(" ", Arrays.copyOf(tokens, i));
                    if (i > 0) {
                        Check.faulty(sort, ahead, 1, ahead.length());
                        Check.faulty(sort, ahead + " \n", 1, ahead.length() + 2);
                    }
                    strangersAt(sort, tokens, i, i > 0 ? ahead + " " : "");
                }
            }
        }
    }

    private static void strangersAt(int sort, String[] tokens, int i, String ahead) {
        List<String> choices = choicesAt(sort, tokens, i);
        List<String> all = new ArrayList<>(strangers());
        all.addAll(nearby(tokens[i]));
        for (String stranger : all) {
            boolean goesOn = choices.contains(stranger) || isNumber(tokens[i]) && isNumber(stranger);
            if (!goesOn) {
                Check.faulty(sort, ahead + stranger + " 1;", 1, ahead.length());
            }
        }
    }

    /** A line of one sort is none of another, but office's. */
    private static void wordsOfOtherSorts() {
        for (int sort = 0; sort < SORTS; sort++) {
            for (int other = 0; other < SORTS; other++) {
                for (String line : LINES[other]) {
                    if (sort != other && !line.startsWith("office")) {
                        Check.faulty(sort, line, 1, 0);
                    }
                }
            }
        }
    }

    /** "KIND: .. SEASON: .." and each 'x' | 'y': all of them are read, each as its own. */
    private static void choices() {
        for (int s = 0; s < 4; s++) {
            WindCabinet c = Check.of(MINISTER + "want 0 " + SEASONS.get(s) + " 7 8 9;",
                    "no wind below 5 in " + SEASONS.get(s) + ";", "season " + SEASONS.get(s) + ";", "",
                    "was " + SEASONS.get(s) + " 1 2 3;");
            for (int i = 0; i < 12; i++) {
                Check.due("want " + i + " of " + s, c.minister(0, 0, 10 + i), i / 3 == s ? 7 + i % 3 : 0);
            }
            Check.due("in season " + s, c.order(0, 0, 3), s);
            Check.due("season " + s, c.deed(0, 0, 1), s);
            Check.due("was season " + s, c.was(0, 0, 0), s);
        }
        for (int k = 0; k < 3; k++) {
            String kind = KINDS.get(k);
            WindCabinet c = Check.of(MINISTER + MINISTER + "office " + kind + " 1;",
                    "no " + kind + " above 5; no " + kind + " below 5; after " + kind + " 1 rain 2; after rain 1 "
                    + kind
                    + " 2;", "office " + kind + " 3;");
            for (int i = 0; i < 3; i++) {
                Check.due("office " + i, c.republic(0, 10 + i), i == k ? 1 : 0);
            }
            Check.due("no .. above", c.order(0, 0, 0), 0);
            Check.due("its kind", c.order(0, 0, 1), k);
            Check.due("no .. below", c.order(0, 1, 0), 1);
            Check.due("its kind", c.order(0, 1, 1), k);
            Check.due("after's first kind", c.order(0, 2, 1), k);
            Check.due("after's second kind", c.order(0, 3, 3), k);
            Check.due("an office's kind", c.deed(0, 0, 1), k);
        }
        WindCabinet c = Check.of("", "", "", "said 0 yes; said 0 no;");
        Check.due("yes", c.leak(0, 0, 1), 1);
        Check.due("no", c.leak(0, 1, 1), 0);
    }

    // ---- numbers

    /** "2 a NUMBER that can't be (as above ..)": the least and the most of each, and one less, one more. */
    private static void numbersAtTheirEdges() {
        numberOf(0, "minister # 0 0 0;", 1, 9);
        numberOf(0, "minister 1 # 0 0;", 0, 27);
        numberOf(0, "minister 1 0 # 0;", 0, 9);
        numberOf(0, "minister 1 0 0 #;", 0, 9);
        numberOf(0, "want # spring 0 0 0;", 0, 5);
        numberOf(0, "want 0 spring # 0 0;", 0, 9);
        numberOf(0, "want 0 spring 0 # 0;", 0, 9);
        numberOf(0, "want 0 spring 0 0 #;", 0, 9);
        numberOf(0, "veto #;", 0, 5);
        numberOf(0, "feud # 3;", 0, 2);
        numberOf(0, "feud # 3;", 4, 5);
        numberOf(0, "feud 3 #;", 0, 2);
        numberOf(0, "feud 3 #;", 4, 5);
        numberOf(0, "office rain #;", 0, 5);
        numberOf(0, "office wind #;", 0, 5);
        numberOf(0, "office sun #;", 0, 5);
        numberOf(0, "quota #;", 1, 60);
        numberOf(0, "spite #;", 0, 9);
        numberOf(0, "cloud #;", 0, 99);
        numberOf(0, "ground #;", 0, 99);
        numberOf(0, "heat #;", 0, 99);
        numberOf(1, "no rain above #;", 0, 9);
        numberOf(1, "no sun below #;", 0, 9);
        numberOf(1, "no wind above # in spring;", 0, 9);
        numberOf(1, "no rain below # in winter;", 0, 9);
        numberOf(1, "sum #;", 0, 27);
        numberOf(1, "after rain # sun 0;", 0, 9);
        numberOf(1, "after rain 0 sun #;", 0, 9);
        numberOf(2, "move # 0 0 0;", 0, 5);
        numberOf(2, "move 0 # 0 0;", 0, 9);
        numberOf(2, "move 0 0 # 0;", 0, 9);
        numberOf(2, "move 0 0 0 #;", 0, 9);
        numberOf(2, "office sun #;", 0, 5);
        numberOf(2, "dismiss #;", 0, 5);
        numberOf(2, "recall #;", 0, 5);
        numberOf(3, "said # yes;", 0, 5);
        numberOf(3, "said # no;", 0, 5);
        numberOf(4, "was summer # 0 0;", 0, 9);
        numberOf(4, "was summer 0 # 0;", 0, 9);
        numberOf(4, "was summer 0 0 #;", 0, 9);
        numberOf(5, "share # 0;", 0, 5);
        numberOf(5, "share 0 #;", 0, 99);
    }

    private static void numberOf(int sort, String line, int least, int most) {
        // Of a republic six are there, so that nobody told of is missing; a line of a minister makes the sixth.
        String ahead = sort == 0 ? MINISTER.repeat(line.startsWith("minister") ? 5 : 6) : "";
        String text = ahead + line;
        int place = text.indexOf('#');
        for (int number = 0; number <= 99; number++) {
            String told = text.replace("#", Integer.toString(number));
            if (number >= least && number <= most) {
                Check.due(told + " is told", Check.tell(new WindCabinet(), sort, NONE, told), 0);
            } else if (!line.startsWith("feud")) {
                Check.faulty(sort, told, 2, place);
            }
        }
        if (most <= 9 && least <= 9) {
            Check.due("of two digits", Check.tell(new WindCabinet(), sort, NONE, text.replace("#", "0" + most)), 0);
        }
        Check.faulty(sort, text.replace("#", "100"), 1, place);
    }

    /** "of feud the second one, if it is the first" */
    private static void feudsWithOneself() {
        String six = MINISTER.repeat(6);
        for (int m = 0; m < 6; m++) {
            Check.faulty(0, six + "feud " + m + " " + m + ";", 2, six.length() + 7);
            Check.faulty(0, six + "feud 0" + m + "  " + m + ";", 2, six.length() + 9);
        }
        Check.faulty(0, six + "feud 6 6;", 2, six.length() + 5);
        Check.faulty(0, six + "feud 6 0;", 2, six.length() + 5);
        Check.faulty(0, six + "feud 0 6;", 2, six.length() + 7);
    }

    // ---- limits

    /** "3 a 7th MINISTER, a 9th ORDER, a 41st DEED, a 9th LEAK, a 9th DAY, at its first token" */
    private static void limitsOfRows() {
        String[] lines = {MINISTER, "sum 5;", "pass;", "said 0 no;", "was winter 1 2 3;"};
        int[] most = {6, 8, 40, 8, 8};
        for (int sort = 0; sort < 5; sort++) {
            String full = lines[sort].repeat(most[sort]);
            Check.due("as many as may be, sort " + sort, Check.tell(new WindCabinet(), sort, NONE, full), 0);
            Check.faulty(sort, full + lines[sort], 3, full.length());
            Check.faulty(sort, full + " \n " + lines[sort], 3, full.length() + 3);
            Check.faulty(sort, full + lines[sort] + lines[sort], 3, full.length());
        }
        WindCabinet c = Check.of(MINISTER.repeat(6), "sum 5;".repeat(8), "pass;".repeat(40), "said 0 no;".repeat(8),
                "was winter 1 2 3;".repeat(8));
        Check.due("6 ministers", c.republic(0, 0), 6);
        Check.due("8 orders", c.order(0, NONE, 0), 8);
        Check.due("40 deeds", c.deed(0, NONE, 0), 40);
        Check.due("8 leaks", c.leak(0, NONE, 0), 8);
        Check.due("8 days", c.was(0, NONE, 0), 8);
        Check.due("the last order", c.order(0, 7, 1), 5);
        Check.due("no order behind it", c.order(0, 8, 0), -2);
        Check.due("the last deed", c.deed(0, 39, 0), 5);
        Check.due("no deed behind it", c.deed(0, 40, 0), -2);
        Check.due("the last leak", c.leak(0, 7, 0), 0);
        Check.due("no leak behind it", c.leak(0, 8, 0), -2);
        Check.due("the last day", c.was(0, 7, 3), 3);
        Check.due("no day behind it", c.was(0, 8, 0), -2);
        Check.due("a full tape of shares", Check.tell(c, 5, NONE, "share 0 1;".repeat(60)), 0);
    }

    /** Of a year and of orders each line counts; of a republic those of ministers alone; of a bargain none. */
    private static void limitsByAnyLine() {
        String[] deeds = {"move 0 0 0 0;", "season winter;", "office rain 0;", "dismiss 0;", "recall 0;", "pass;"};
        for (String deed : deeds) {
            Check.faulty(2, "pass;".repeat(40) + deed, 3, 200);
            Check.due("40 deeds", Check.tell(new WindCabinet(), 2, NONE, "pass;".repeat(39) + deed), 0);
        }
        for (String order : new String[] {"no rain above 0;", "no sun below 9 in spring;", "sum 0;",
                "after sun 1 sun 2;"}) {
            Check.faulty(1, "sum 9;".repeat(8) + order, 3, 48);
            Check.faulty(1, order + "sum 9;".repeat(8), 3, order.length() + 42);
        }
        Check.faulty(3, "said 0 no;".repeat(8) + "said 1 yes;", 3, 80);
        String others = "quota 9;".repeat(9) + "veto 0;".repeat(9) + "feud 0 1;".repeat(9) + "office sun 0;".repeat(9);
        WindCabinet c = Check.of(others + MINISTER.repeat(6));
        Check.due("6 ministers among many lines", c.republic(0, 0), 6);
        Check.faulty(0, others + MINISTER.repeat(7), 3, others.length() + 6 * MINISTER.length());
    }

    /** "1 .. If there is none, the first by place .. If there is none of these, at the end's place: 4" */
    private static void faultsInTheirOrder() {
        String six = MINISTER.repeat(6);
        Check.faulty(0, "quota 61; quota 62;", 2, 6);
        Check.faulty(0, "quota 61; heat", 1, 14);
        Check.faulty(0, "veto 6; veto 5; x", 1, 16);
        Check.faulty(0, six + MINISTER + "x;", 1, 119);
        Check.faulty(0, six + MINISTER + "quota 61;", 3, 102);
        Check.faulty(0, six + "quota 61;" + MINISTER, 2, 108);
        Check.faulty(0, six + "minister 0 28 10 10;", 3, 102);
        Check.faulty(0, MINISTER.repeat(5) + "minister 0 0 0 0;" + MINISTER, 2, 94);
        Check.faulty(0, MINISTER.repeat(5) + "minister 1 0 0 10;" + MINISTER, 2, 100);
        Check.faulty(1, "sum 9;".repeat(7) + "sum 28;sum 9;", 2, 46);
        Check.faulty(1, "sum 9;".repeat(8) + "sum 28;", 3, 48);
        Check.faulty(2, "pass;".repeat(40) + "move 6 10 10 10;", 3, 200);
        Check.faulty(2, "pass;".repeat(39) + "move 5 9 9 10;pass;", 2, 206);
        Check.faulty(3, "said 0 no;".repeat(8) + "said 6 no;", 3, 80);
        Check.faulty(4, "was winter 1 2 3;".repeat(8) + "was winter 10 2 3;", 3, 136);
        Check.faulty(0, "veto 0; quota 0;", 2, 14);
        Check.faulty(0, "veto 0; quota", 1, 13);
        Check.faulty(0, "veto 6;", 2, 5);
        Check.faulty(0, "veto 5; " + six + MINISTER, 3, 110);
        Check.faulty(0, "veto 5;", 4, 7);
    }

    /** "4 of a REPUBLIC a MINISTER that was told of (want, veto, feud, office) and is not there" */
    private static void ministersToldOf() {
        String[] lines = {"want # winter 0 0 0;", "veto #;", "feud # 9;", "feud 9 #;", "office rain #;",
                "office wind #;",
            "office sun #;"};
        for (int size = 0; size <= 6; size++) {
            String there = MINISTER.repeat(size);
            for (String line : lines) {
                for (int m = 0; m < 6; m++) {
                    int other = line.startsWith("feud") && m == 0 ? 1 : 0;
                    String told = line.replace("#", "" + m).replace("9", "" + other);
                    toldOf(there, told, m < size && (!line.startsWith("feud") || other < size));
                }
            }
        }
        Check.faulty(0, "office rain 1; office rain 0;" + MINISTER, 4, 46);
        Check.faulty(0, "  veto 1;" + MINISTER + "\n \n", 4, 29);
        Check.faulty(0, MINISTER + "veto 1;" + " ".repeat(576), 4, 600);
        Check.due("numbers tell of nobody", Check.tell(new WindCabinet(), 0, NONE,
                "quota 5; spite 5; cloud 5; heat 5;"), 0);
        Check.due("nobody is there, nobody told of: offices are 0 at first", Check.of("").republic(0, 10), 0);
        Check.due("of a year none is missing", Check.tell(new WindCabinet(), 2, NONE, "move 5 1 1 1; dismiss 5;"), 0);
        Check.due("of leaks none is missing", Check.tell(new WindCabinet(), 3, NONE, "said 5 yes;"), 0);
        Check.due("of a bargain none is missing", Check.tell(new WindCabinet(), 5, NONE, "share 5 1;"), 0);
    }

    private static void toldOf(String there, String told, boolean isThere) {
        if (isThere) {
            Check.due(told + " behind the ministers", Check.tell(new WindCabinet(), 0, NONE, there + told), 0);
            Check.due(told + " ahead of the ministers", Check.tell(new WindCabinet(), 0, NONE, told + there), 0);
        } else {
            Check.faulty(0, there + told, 4, there.length() + told.length());
            Check.faulty(0, told + there, 4, there.length() + told.length());
        }
    }

    // ---- later lines

    /** "Later ones strike" */
    private static void laterOnesStrike() {
        WindCabinet c = Check.of(MINISTER + MINISTER + "want 0 spring 1 2 3; want 1 spring 4 5 6; want 0 winter 7 8 9;"
                + "want 0 spring 0 9 0; office rain 1; office sun 1; office rain 0; quota 7; quota 8; spite 7; spite 8;"
                + "cloud 7; cloud 8; ground 7; ground 8; heat 7; heat 8;");
        int[] first = {0, 9, 0, 0, 0, 0, 0, 0, 0, 7, 8, 9};
        int[] second = {4, 5, 6, 0, 0, 0, 0, 0, 0, 0, 0, 0};
        for (int i = 0; i < 12; i++) {
            Check.due("the first one's want " + i, c.minister(0, 0, 10 + i), first[i]);
            Check.due("the second one's want " + i, c.minister(0, 1, 10 + i), second[i]);
        }
        for (int what = 1; what <= 5; what++) {
            Check.due("the later number " + what, c.republic(0, what), 8);
        }
        Check.due("the later office of rain", c.republic(0, 10), 0);
        Check.due("no office of wind", c.republic(0, 11), 0);
        Check.due("the one office of sun", c.republic(0, 12), 1);
        c = Check.of("", "", "", "", "", "share 0 99; share 1 98; share 0 0; share 5 1; share 5 99;");
        int[] shares = {0, 98, 0, 0, 0, 99};
        for (int m = 0; m < 6; m++) {
            Check.due("share " + m, c.bargain(0, 0, m), shares[m]);
        }
    }

    /** Each line alone: the other numbers are as at first. */
    private static void eachNumberAlone() {
        String[] words = {"", "quota", "spite", "cloud", "ground", "heat"};
        int[] first = {0, 10, 2, 50, 50, 20};
        for (int told = 1; told <= 5; told++) {
            WindCabinet c = Check.of(words[told] + " 7;");
            for (int what = 0; what <= 5; what++) {
                Check.due(words[told] + " alone, " + what, c.republic(0, what), what == told ? 7 : first[what]);
            }
        }
    }

    /** "but MINISTERS, vetoes, feuds, ORDERS, DEEDS, LEAKS, DAYS, which are further ones" */
    private static void furtherOnes() {
        WindCabinet c = Check.of("minister 1 1 1 1;".repeat(2) + "minister 2 1 1 1; veto 0; veto 2; veto 0;"
                + "feud 0 1; feud 0 2; feud 1 0;", "no rain above 5; no rain above 5; no rain above 4;",
                "season spring; season spring; season winter;", "said 0 yes; said 0 yes; said 0 no;",
                "was spring 1 1 1; was spring 1 1 1; was spring 2 2 2;");
        Check.due("ministers", c.republic(0, 0), 3);
        int[] vetoes = {1, 0, 1};
        int[] feuds = {6, 1, 1};
        for (int m = 0; m < 3; m++) {
            Check.due("vetoes", c.minister(0, m, 4), vetoes[m]);
            Check.due("feuds", c.minister(0, m, 5), feuds[m]);
        }
        Check.due("orders", c.order(0, NONE, 0), 3);
        Check.due("the first order", c.order(0, 0, 2), 5);
        Check.due("the third order", c.order(0, 2, 2), 4);
        Check.due("deeds", c.deed(0, NONE, 0), 3);
        Check.due("the first deed", c.deed(0, 0, 1), 0);
        Check.due("the third deed", c.deed(0, 2, 1), 3);
        Check.due("leaks", c.leak(0, NONE, 0), 3);
        Check.due("the first leak", c.leak(0, 0, 1), 1);
        Check.due("the third leak", c.leak(0, 2, 1), 0);
        Check.due("days", c.was(0, NONE, 0), 3);
        Check.due("the first day", c.was(0, 0, 1), 1);
        Check.due("the third day", c.was(0, 2, 1), 2);
    }

    /** "THE TAPE has at most 600 bytes": a text of all of them is read to its last byte. */
    private static void fullTape() {
        String blanks = " ".repeat(593);
        Check.due("a line at the end", Check.of(blanks + "heat 7;").republic(0, 5), 7);
        Check.due("a line at the start", Check.of("heat 7;" + blanks).republic(0, 5), 7);
        Check.faulty(0, blanks + " heat 7", 1, 600);
        Check.faulty(0, blanks + "heat 7x", 1, 599);
        Check.faulty(0, "heat 7;" + blanks.substring(1) + "x", 1, 599);
        Check.faulty(0, blanks + "veto 0;", 4, 600);
        Check.due("75 lines", Check.of("quota 5;".repeat(74) + "heat 13;").republic(0, 5), 13);
        Check.due("forty deeds and blanks", Check.tell(new WindCabinet(), 2, NONE,
                "pass; ".repeat(40) + " ".repeat(360)), 0);
    }

    // ---- promises 5 and 28

    /** "Of the latest text(), what 0: the FAULT, 0 without, 1: its place, NONE without. NONE for another what." */
    private static void faultAsked() {
        WindCabinet c = new WindCabinet();
        Check.tell(c, 1, NONE, "sum 28;");
        for (int i = 0; i < 2; i++) {
            Check.due("the fault", c.fault(0), 2);
            Check.due("its place", c.fault(1), 4);
        }
        Check.refused("fault", NONE, n -> c.fault(n[0]), new int[] {0}, Check.andWild(-1, -2, 2, 3, 4));
        Check.refused("fault", NONE, n -> c.fault(n[0]), new int[] {1}, Check.andWild(-1, -2, 2, 3, 4));
        Check.feed(c, 0, "x");
        Check.due("fed, but no text yet", c.fault(0), 2);
        c.text(1, NONE);
        Check.due("the latest text's fault", c.fault(0), 1);
        Check.due("the latest text's place, 0", c.fault(1), 0);
        c.text(1, NONE);
        Check.due("without", c.fault(0), 0);
        Check.due("without", c.fault(1), NONE);
        Check.due("without, another what", c.fault(2), NONE);
    }

    /** "How many there are of a sort. -2 for another one." */
    private static void countAsked() {
        WindCabinet c = Check.of("", "", "", "", "", "");
        for (int sort = 0; sort < SORTS; sort++) {
            Check.due("one of " + sort, c.count(sort), 1);
        }
        Check.refused("count", -2, n -> c.count(n[0]), new int[] {5}, Check.andWild(-1, -2, 6, 7));
    }

    // ---- promises 29 and 30

    /** "all that is told (the tape, the FAULT, too), as it is now"; "All that is as image k has it" */
    private static void imagesOfAll() {
        for (int k = 0; k < 3; k++) {
            WindCabinet c = Check.of("minister 9 27 8 7; minister 1 2 3 4; want 1 autumn 1 2 3; veto 1; feud 0 1;"
                    + "office wind 1;quota 6; spite 5; cloud 4; ground 3; heat 2;", "after sun 9 wind 8;", "move 5 4 3 2;",
                    "said 4 yes;",
                    "was winter 9 8 7;", "share 5 99;");
            Check.tell(c, 3, 0, "said 6 no;");
            Check.feed(c, 0, "heat 42;");
            Check.due("image " + k, c.image(k), true);
            for (int sort = 0; sort < SORTS; sort++) {
                Check.tell(c, sort, 0, sort == 0 ? "minister 3 3 3 3; minister 3 3 3 3;" : "");
                Check.told(c, sort, anyOf(sort));
            }
            Check.feed(c, 0, "x".repeat(20));
            Check.due("again " + k, c.again(k), true);
            isAsAtImage(c);
            Check.due("the tape's text", c.text(0, NONE), 1);
            Check.due("its bytes", c.republic(1, 5), 42);
        }
    }

    private static void isAsAtImage(WindCabinet c) {
        Check.tapeHas("again", c, 8);
        Check.due("the fault", c.fault(0), 2);
        Check.due("the fault's place", c.fault(1), 5);
        for (int sort = 0; sort < SORTS; sort++) {
            Check.due("how many of " + sort, c.count(sort), 1);
        }
        int[] numbers = {2, 6, 5, 4, 3, 2};
        int[] first = {9, 27, 8, 7, 0, 2};
        int[] second = {1, 2, 3, 4, 1, 1};
        for (int what = 0; what < 6; what++) {
            Check.due("the republic's " + what, c.republic(0, what), numbers[what]);
            Check.due("the first one's " + what, c.minister(0, 0, what), first[what]);
            Check.due("the second one's " + what, c.minister(0, 1, what), second[what]);
        }
        for (int kind = 0; kind < 3; kind++) {
            Check.due("office " + kind, c.republic(0, 10 + kind), kind == 1 ? 1 : 0);
            Check.due("want " + kind, c.minister(0, 1, 16 + kind), 1 + kind);
        }
        int[] order = {3, 2, 9, 1, 8};
        int[] deed = {0, 5, 4, 3, 2};
        int[] day = {3, 9, 8, 7};
        for (int what = 0; what < 5; what++) {
            Check.due("the order's " + what, c.order(0, 0, what), order[what]);
            Check.due("the deed's " + what, c.deed(0, 0, what), deed[what]);
        }
        for (int what = 0; what < 4; what++) {
            Check.due("the day's " + what, c.was(0, 0, what), day[what]);
        }
        Check.due("the leak's minister", c.leak(0, 0, 0), 4);
        Check.due("the leak's answer", c.leak(0, 0, 1), 1);
        Check.due("the share", c.bargain(0, 0, 5), 99);
    }

    /** "Image k (0 .. 2) .. false for another k"; "false if there is none such" */
    private static void imagesRefused() {
        WindCabinet c = Check.of("quota 7;");
        Check.feed(c, 0, "heat");
        for (int k : Check.andWild(-1, -2, 3, 4)) {
            Check.due("image " + k, c.image(k), false);
            Check.due("again " + k, c.again(k), false);
        }
        c.image(1);
        Check.tell(c, 0, 0, "quota 8;");
        Check.tell(c, 0, 0, "quota 61;");
        Check.feed(c, 0, "spite");
        for (int k : Check.andWild(-1, 0, 2, 3)) {
            Check.due("again " + k + " without such an image", c.again(k), false);
            Check.due("all stays", c.republic(0, 1), 8);
            Check.due("the fault stays", c.fault(0), 2);
            Check.tapeHas("the tape stays", c, 5);
        }
        Check.due("again 1", c.again(1), true);
        Check.due("as image 1 has it", c.republic(0, 1), 7);
        Check.tapeHas("as image 1 has it", c, 4);
    }

    /** "as it is now"; "other images stay" */
    private static void imagesStay() {
        WindCabinet c = new WindCabinet();
        Check.due("image 0 of nothing", c.image(0), true);
        Check.told(c, 0, "quota 11;");
        Check.due("image 1 of one", c.image(1), true);
        Check.told(c, 0, "quota 12;");
        Check.due("image 2 of two", c.image(2), true);
        for (int round = 0; round < 2; round++) {
            for (int k : new int[] {1, 0, 2, 0, 1, 1, 2}) {
                Check.due("again " + k, c.again(k), true);
                Check.due("how many in image " + k, c.count(0), k);
                Check.due("the first in image " + k, c.republic(0, 1), k == 0 ? NONE : 11);
                Check.due("the second in image " + k, c.republic(1, 1), k == 2 ? 12 : NONE);
            }
        }
        Check.tell(c, 0, 0, "quota 13;");
        c.again(2);
        Check.due("what is told behind it is not in an image", c.republic(0, 1), 11);
        Check.tell(c, 0, 1, "quota 14;");
        Check.due("image 2 anew", c.image(2), true);
        c.again(1);
        Check.due("image 1 is the old one", c.count(0), 1);
        c.again(2);
        Check.due("image 2 is the new one", c.republic(1, 1), 14);
        Check.due("an image of nothing makes nothing", c.again(0), true);
        Check.due("the next one is the first", Check.tell(c, 0, NONE, "heat 5;"), 0);
        Check.due("of quota 10 at first", c.republic(0, 1), 10);
    }
}

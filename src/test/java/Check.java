import java.util.Arrays;

/** What the tests share: telling texts, and counting answers that are not due. */
final class Check {
    static final int REPUBLIC = 0;
    static final int ORDERS = 1;
    static final int YEAR = 2;
    static final int LEAKS = 3;
    static final int SUMMER = 4;
    static final int BARGAIN = 5;

    /** Numbers that are too small or too large for all that the document bounds. */
    static final int[] WILD = {Integer.MIN_VALUE, Integer.MIN_VALUE + 1, -1000, 1000, Integer.MAX_VALUE};

    private static int wrong;
    private static int checked;

    /** A call with numbers alone; a boolean counts 1 or 0. */
    interface Call {
        int of(int[] numbers);
    }

    private Check() {
    }

    static void due(String call, long got, long want) {
        checked++;
        if (got != want) {
            wrong++;
            System.out.println(call + " answered " + got + ", due is " + want);
        }
    }

    static void due(String call, boolean got, boolean want) {
        due(call, got ? 1 : 0, want ? 1 : 0);
    }

    static void finish() {
        System.out.println(checked + " answers checked, " + wrong + " not as due");
        if (wrong != 0) {
            System.exit(1);
        }
    }

    /** Puts the text on the tape, and answers how long the tape is then. */
    static int feed(WindCabinet cabinet, int before, String text) {
        for (int i = 0; i < text.length(); i += 20) {
            cabinet.feed(word(text, i), word(text, i + 4), word(text, i + 8), word(text, i + 12), word(text, i + 16));
        }
        return cabinet.end(before + text.length());
    }

    static int word(String text, int from) {
        int word = 0;
        for (int i = from; i < from + 4; i++) {
            word = word << 8 | (i < text.length() ? text.charAt(i) & 255 : 0);
        }
        return word;
    }

    static int tell(WindCabinet cabinet, int sort, int at, String text) {
        cabinet.end(0);
        feed(cabinet, 0, text);
        return cabinet.text(sort, at);
    }

    /** A further text that is due to have no fault. */
    static void told(WindCabinet cabinet, int sort, String text) {
        int number = tell(cabinet, sort, -1, text);
        if (number < 0) {
            due("telling \"" + text + "\", fault " + cabinet.fault(0) + " at " + cabinet.fault(1) + ",", number, 0);
        }
    }

    /** A text that is due to have that fault at that place, and to change nothing. */
    static void faulty(int sort, String text, int fault, int place) {
        WindCabinet cabinet = new WindCabinet();
        due("text of \"" + text + "\"", tell(cabinet, sort, -1, text), -1);
        due("fault of \"" + text + "\"", cabinet.fault(0), fault);
        due("fault's place in \"" + text + "\"", cabinet.fault(1), place);
        due("count behind \"" + text + "\"", cabinet.count(sort), 0);
        due("end behind \"" + text + "\"", cabinet.end(1), -1);
    }

    /** The lines of ministers, each by VOTES, YIELD, TEMPER, PRICE. */
    static String ministers(String... ones) {
        StringBuilder text = new StringBuilder();
        for (String one : ones) {
            text.append("minister ").append(one).append(';');
        }
        return text.toString();
    }

    /** A new object that was told those texts, one of each sort from 0 on. */
    static WindCabinet of(String... texts) {
        WindCabinet cabinet = new WindCabinet();
        for (int sort = 0; sort < texts.length; sort++) {
            told(cabinet, sort, texts[sort]);
        }
        return cabinet;
    }

    /** That the tape has just so many bytes; it is left as it is. */
    static void tapeHas(String call, WindCabinet cabinet, int bytes) {
        due(call + ": end beyond the tape", cabinet.end(bytes + 1), -1);
        due(call + ": the tape's end", cabinet.end(bytes), bytes);
    }

    /** Each of the good numbers in turn gives way to each that isn't; with all of them good the call is not refused. */
    static void refused(String name, int due, Call call, int[] good, int[]... bad) {
        due(name + ", all good, is not refused", call.of(good) != due, true);
        for (int i = 0; i < bad.length; i++) {
            for (int number : bad[i]) {
                int[] numbers = good.clone();
                numbers[i] = number;
                due(name + Arrays.toString(numbers) + " is refused", call.of(numbers), due);
            }
        }
    }

    /** Those numbers and the wild ones; -1000 and 1000 stay below 0 and beyond all rows. */
    static int[] andWild(int... numbers) {
        int[] all = Arrays.copyOf(numbers, numbers.length + WILD.length);
        System.arraycopy(WILD, 0, all, numbers.length, WILD.length);
        return all;
    }
}

/** What the tests share: telling texts, and counting answers that are not due. */
final class Check {
    static final int REPUBLIC = 0;
    static final int ORDERS = 1;
    static final int YEAR = 2;
    static final int LEAKS = 3;
    static final int SUMMER = 4;
    static final int BARGAIN = 5;

    private static int wrong;
    private static int checked;

    private Check() {
    }

    static void due(String call, long got, long want) {
        checked++;
        if (got != want) {
            wrong++;
            System.out.println(call + " answered " + got + ", due is " + want);
        }
    }

    static void due(String call, boolean got, boolean want) {
        due(call, got ? 1 : 0, want ? 1 : 0);
    }

    static void finish() {
        System.out.println(checked + " answers checked, " + wrong + " not as due");
        if (wrong != 0) {
            System.exit(1);
        }
    }

    /** Puts the text on the tape, and answers how long the tape is then. */
    static int feed(WindCabinet cabinet, int before, String text) {
        for (int i = 0; i < text.length(); i += 20) {
            cabinet.feed(word(text, i), word(text, i + 4), word(text, i + 8), word(text, i + 12), word(text, i + 16));
        }
        return cabinet.end(before + text.length());
    }

    static int word(String text, int from) {
        int word = 0;
        for (int i = from; i < from + 4; i++) {
            word = word << 8 | (i < text.length() ? text.charAt(i) & 255 : 0);
        }
        return word;
    }

    static int tell(WindCabinet cabinet, int sort, int at, String text) {
        cabinet.end(0);
        feed(cabinet, 0, text);
        return cabinet.text(sort, at);
    }

    /** A further text that is due to have no fault. */
    static void told(WindCabinet cabinet, int sort, String text) {
        int number = tell(cabinet, sort, -1, text);
        if (number < 0) {
            due("telling \"" + text + "\", fault " + cabinet.fault(0) + " at " + cabinet.fault(1) + ",", number, 0);
        }
    }

    /** A text that is due to have that fault at that place, and to change nothing. */
    static void faulty(int sort, String text, int fault, int place) {
        WindCabinet cabinet = new WindCabinet();
        due("text of \"" + text + "\"", tell(cabinet, sort, -1, text), -1);
        due("fault of \"" + text + "\"", cabinet.fault(0), fault);
        due("fault's place in \"" + text + "\"", cabinet.fault(1), place);
        due("count behind \"" + text + "\"", cabinet.count(sort), 0);
        due("end behind \"" + text + "\"", cabinet.end(1), -1);
    }
}

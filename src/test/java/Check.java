import java.util.NoSuchElementException;

/** What the tests share: texts fed to the tape, answers compared, an exit code at the end. */
final class Check {
    /** Far from all bounds, on both sides. */
    static final int[] FAR = {Integer.MIN_VALUE, Integer.MIN_VALUE + 1, -65536, -256, 65536, Integer.MAX_VALUE - 1, Integer.MAX_VALUE};

    private static int wrong = 0;
    private static int looked = 0;
    private static String sentence = "";

    private Check() {
    }

    static void due(String what, long got, long want) {
        looked++;
        if (got != want) {
            wrong++;
            System.out.println(what + " answered " + got + ", due is " + want + sentence);
        }
    }

    /** The document's sentence that the next answers are about: told with each that is not as due. */
    static void says(String words) {
        sentence = " (the document: " + words + ")";
    }

    static void due(String what, boolean got, boolean want) {
        due(what, got ? 1 : 0, want ? 1 : 0);
    }

    static void end() {
        System.out.println(looked + " answers looked at, " + wrong + " not as due");
        if (wrong != 0 || looked == 0) {
            System.exit(1);
        }
    }

    /** Eight signs of a text as a long, the highest byte first; behind the text's end there are zeros. */
    static long eight(String text, int from) {
        long bytes = 0;
        for (int i = from; i < from + 8; i++) {
            bytes = bytes << 8 | (i < text.length() ? text.charAt(i) & 255 : 0);
        }
        return bytes;
    }

    static void feed(LeapCapital capital, String text) {
        for (int i = 0; i < text.length(); i += 24) {
            capital.feed(eight(text, i), eight(text, i + 8), eight(text, i + 16));
        }
    }

    static int realm(LeapCapital capital, String text) {
        feed(capital, text);
        return capital.realm();
    }

    static int reign(LeapCapital capital, String text) {
        feed(capital, text);
        return capital.reign();
    }

    /** A new object with this REALM. */
    static LeapCapital told(String text) {
        LeapCapital capital = new LeapCapital();
        due("realm of " + text, realm(capital, text), 0);
        return capital;
    }

    /** A long text's beginning and end. */
    private static String shown(String text) {
        int length = text.length();
        return "<" + (length > 120 ? text.substring(0, 60) + " .. " + text.substring(length - 50) : text) + ">";
    }

    static void dueRealm(String text, int kind, int place) {
        due("realm of " + shown(text), realm(new LeapCapital(), text), kind + 16 * place);
    }

    /** A text read by a new object as a REALM; the token that is wrong stands behind ^. */
    static void faultOfRealm(int kind, String marked) {
        dueRealm(marked.replace("^", ""), kind, marked.indexOf('^'));
    }

    /** The same of a REIGN. */
    static void faultOfReign(LeapCapital capital, int kind, String marked) {
        dueReign(capital, marked.replace("^", ""), kind, marked.indexOf('^'));
    }

    static void readsRealm(String text) {
        dueRealm(text, 0, 0);
    }

    static void readsReign(LeapCapital capital, String text) {
        dueReign(capital, text, 0, 0);
    }

    /** All counts from 0 on. */
    static void dueCounts(String when, LeapCapital capital, int... want) {
        for (int what = 0; what < want.length; what++) {
            due(when + ": count(" + what + ")", capital.count(what), want[what]);
        }
    }

    static void dueReign(LeapCapital capital, String text, int kind, int place) {
        due("reign of " + shown(text), reign(capital, text), kind + 16 * place);
    }

    /** The order in which the QUEUE would be called, as a row of digits. */
    static String calls(LeapCapital capital) {
        StringBuilder row = new StringBuilder();
        for (int i = 0; capital.call(i) != LeapCapital.NONE; i++) {
            row.append(capital.call(i));
        }
        return row.toString();
    }

    static void dueCalls(LeapCapital capital, String want) {
        String got = calls(capital);
        looked++;
        if (!got.equals(want)) {
            wrong++;
            System.out.println("calls answered " + got + ", due is " + want + sentence);
        }
    }

    /** The rests as rests(..) answers it; -100 stands for NoSuchElementException. */
    static int rests(LeapCapital capital, int lose, int goes, int stays, int what) {
        try {
            return capital.rests(lose, goes, stays, what);
        } catch (NoSuchElementException e) {
            return -100;
        }
    }

    static String times(String text, int n) {
        return text.repeat(n);
    }
}

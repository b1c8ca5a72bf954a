import java.time.Year;

/** "An object is used for at most 512 calls after it has been made": the last of them is answered like the first. */
public final class BoundsCallsTest {
    private static final int MOST_CALLS = 512;

    public static void main(String[] args) {
        Check.says("An object is used for at most 512 calls after it has been made");
        years();
        rides();
        undoing();
        tapes();
        texts();
        marksAndSayings();
        throwing();
        dearQuestions();
        behindThem();
        Check.end();
    }

    private static void years() {
        LeapCapital x = new LeapCapital();
        for (int call = 1; call < MOST_CALLS; call++) {
            x.waits();
        }
        Check.due("the year by the 512th call", x.count(1), 1896 + MOST_CALLS - 1);
    }

    private static void rides() {
        LeapCapital x = new LeapCapital();
        // Two calls tell the realm: 3000, the last year that can be told.
        Check.due("feed", x.feed(Check.eight("year 300", 0), Check.eight("0;", 0), 0), 10);
        Check.due("realm", x.realm(), 0);
        int year = 3000;
        for (int call = 3; call < MOST_CALLS; call++) {
            Check.due("ride()", x.ride(), 0);
            do {
                year++;
            } while (!Year.isLeap(year));
        }
        Check.due("the year by the 512th call, beyond 4000", x.count(1), year);
        Check.due("that far", year > 5000, true);
    }

    private static void undoing() {
        LeapCapital x = new LeapCapital();
        for (int call = 1; call <= 495; call++) {
            x.waits();
        }
        for (int i = 0; i < 16; i++) {
            Check.due("undo()", x.undo(), true);
        }
        Check.due("no seventeenth, by the 512th call", x.undo(), false);
        LeapCapital y = new LeapCapital();
        for (int call = 1; call < MOST_CALLS; call += 2) {
            y.lamp(1);
            Check.due("undo()", y.undo(), true);
        }
        Check.due("nothing is left", y.count(4), 0);
    }

    private static void tapes() {
        LeapCapital x = new LeapCapital();
        int signs = 0;
        for (int call = 1; call < MOST_CALLS; call++) {
            signs = Math.min(1000, signs + 2);
            Check.due("feed", x.feed(' ', 0, '\n'), signs);
        }
        Check.due("realm by the 512th call", x.realm(), 0);
    }

    private static void texts() {
        LeapCapital x = new LeapCapital();
        for (int call = 1; call < MOST_CALLS - 1; call += 3) {
            int year = 1 + call;
            Check.due("feed", x.feed(Check.eight("year " + year + ";", 0), Check.eight("year " + year + ";", 8), 0) > 0, true);
            Check.due("realm", x.realm(), 0);
            Check.due("year", x.count(1), year);
        }
        x.feed(0, 0, '#');
        Check.due("a fault by the 512th call", x.reign(), 1);
    }

    private static void marksAndSayings() {
        LeapCapital x = new LeapCapital();
        x.mark(3, false);
        for (int call = 2; call < MOST_CALLS; call += 10) {
            for (int i = 0; i < 8; i++) {
                Check.due("say", x.say(40, false), true);
            }
            Check.due("no ninth", x.say(40, false), false);
            Check.due("back", x.mark(3, true), true);
        }
        Check.due("nothing is SAID", x.count(10), 0);
    }

    private static void throwing() {
        LeapCapital x = new LeapCapital();
        for (int call = 1; call < MOST_CALLS; call++) {
            Check.due("rests of others", Check.rests(x, 10, 0, 0, -1), -100);
        }
        Check.due("rests by the 512th call", Check.rests(x, 9, 9, 9, -1), 2);
    }

    private static void dearQuestions() {
        String six = "person a plain born 1890 plea 9;person b lover born 1890 plea 9;person c lover born 1890 plea 9;"
                + "person d leap born 1890 plea 9;person e heir born 1890 plea 9;person f heir born 1890 plea 9;first 0-asks;";
        LeapCapital x = Check.told(six);
        LeapCapital y = Check.told(six);
        for (int p = 0; p < 6; p++) {
            y.come(p);
        }
        int coming = x.coming(4, -1);
        int chance = y.chance(5, 5);
        int ages = y.ages(9999, 99, 0);
        int need = y.need(5);
        for (int call = 20; call < MOST_CALLS - 1; call++) {
            Check.due("coming", x.coming(4, -1), coming);
            switch (call % 3) {
                case 0: Check.due("chance", y.chance(5, 5), chance); break;
                case 1: Check.due("ages", y.ages(9999, 99, 0), ages); break;
                default: Check.due("need", y.need(5), need);
            }
        }
        Check.dueCounts("as ahead", y, 6, 1896, 10, 70, 0, 6, 63);
    }

    private static void behindThem() {
        Check.says("what later calls answer is free (but nothing throws by itself)");
        LeapCapital x = new LeapCapital();
        for (int call = 0; call < 20 * MOST_CALLS; call++) {
            x.ride();
            x.feed(-1L, 0x3b3b3b3b3b3b3b3bL, call);
            x.say(4, true);
            x.mark(call & 3, (call & 4) != 0);
        }
        Check.due("it is still there", x.leap(2000), 1);
    }
}

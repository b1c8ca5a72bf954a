/** The bounds of number 1 of the terms: the TAPE and its TOKENS; promises 1 to 4. */
public final class BoundsTapeTest {
    private static final String SIGNS = "()<=+-*;";

    public static void main(String[] args) {
        aNewObject();
        whichSigns();
        theOrderOfBytes();
        atMostAThousand();
        whatIsLeftOutTakesNoRoom();
        aFullTapeIsRead();
        whatReadsItTakesIt();
        blanks();
        lengthsOfWords();
        lengthsOfNumbers();
        whatStandsRightBehind();
        signsThatAreTokens();
        Check.end();
    }

    private static void aNewObject() {
        Check.says("Nothing, the year 1896");
        LeapCapital x = new LeapCapital();
        Check.dueCounts("new", x, 0, 1896, 10, 70, 0, 0, 0, 0, 0, 0, 0, 0, 0, -1);
        Check.due("person(0, 0)", x.person(0, 0), -2);
        Check.due("come(0)", x.come(0), -1);
        Check.due("leave(0)", x.leave(0), false);
        Check.due("undo()", x.undo(), false);
        for (int mark = 0; mark < 4; mark++) {
            Check.due("mark(" + mark + ", true)", x.mark(mark, true), false);
        }
        Check.due("ride()", x.ride(), 0);
        Check.due("the year", x.count(1), 1904);
    }

    private static void whichSigns() {
        Check.says("others than 10 and 32 .. 126 are left out");
        for (int sign = 0; sign < 256; sign++) {
            LeapCapital x = new LeapCapital();
            boolean stands = sign == 10 || sign >= 32 && sign <= 126;
            int signs = 0;
            for (int at = 0; at < 24; at++) {
                long eight = (long) sign << 56 - 8 * (at % 8);
                signs += stands ? 1 : 0;
                Check.due("sign " + sign + " at " + at,
                        x.feed(at < 8 ? eight : 0, at >= 8 && at < 16 ? eight : 0, at >= 16 ? eight : 0), signs);
            }
            Check.due("signs of " + sign, x.count(12), signs);
        }
    }

    private static void theOrderOfBytes() {
        Check.says("the bytes of a, b, c, of each the highest first");
        LeapCapital x = new LeapCapital();
        Check.due("24 signs", x.feed(Check.eight("year 123", 0), Check.eight("4;lives ", 0), Check.eight("  87   ;", 0)), 24);
        Check.due("realm()", x.realm(), 0);
        Check.due("year", x.count(1), 1234);
        Check.due("lives", x.count(3), 87);
        Check.due("none", x.feed(0, 0, 0), 0);
        Check.due("one", x.feed(0, 0, ';'), 1);
        Check.due("one more, behind it", x.feed(0x3100000000000000L, 0, 0), 2);
        Check.due("the first one is wrong", x.realm(), 1);
    }

    private static LeapCapital tapeOf(int signs, String last) {
        LeapCapital x = new LeapCapital();
        Check.feed(x, Check.times(" ", signs - last.length()) + last);
        Check.due("signs", x.count(12), signs);
        return x;
    }

    private static void atMostAThousand() {
        Check.says("The TAPE has at most 1,000 signs; what is beyond 1,000 is left out: how many there are");
        LeapCapital x = tapeOf(999, "");
        Check.due("none more", x.feed(0, 0, 0), 999);
        Check.due("the thousandth", x.feed(0, ';', 0), 1000);
        Check.due("no more", x.feed(0, 0, ';'), 1000);
        Check.due("no 24 more", x.feed(0x3b3b3b3b3b3b3b3bL, 0x3b3b3b3b3b3b3b3bL, 0x3b3b3b3b3b3b3b3bL), 1000);
        Check.due("the thousandth is the first that is wrong", x.realm(), 1 + 16 * 999);
        LeapCapital y = tapeOf(976, "");
        Check.due("24 to the last one", y.feed(Check.eight("        ", 0), Check.eight("        ", 0), Check.eight("       ;", 0)), 1000);
        Check.due("wrong at 999", y.realm(), 1 + 16 * 999);
        LeapCapital z = tapeOf(977, "");
        Check.due("23 of 24", z.feed(Check.eight("        ", 0), Check.eight("        ", 0), Check.eight("       ;", 0)), 1000);
        Check.due("blanks alone", z.realm(), 0);
        LeapCapital w = tapeOf(1000, "");
        Check.due("blanks alone", w.realm(), 0);
        Check.due("empty", w.count(12), 0);
        Check.due("there is room again", w.feed(0, 0, ';'), 1);
    }

    private static void whatIsLeftOutTakesNoRoom() {
        Check.says("others than 10 and 32 .. 126, and what is beyond 1,000, are left out");
        LeapCapital x = tapeOf(999, "");
        Check.due("the good one behind those left out", x.feed(0x00091f7f80ff0b0cL, 0x00ff3b2020202020L, 0), 1000);
        Check.due("it is the last one", x.realm(), 1 + 16 * 999);
    }

    private static void aFullTapeIsRead() {
        Check.says("The TAPE has at most 1,000 signs (read whole)");
        String law = "first" + Check.times("1+", 496) + "1;";
        Check.due("length", law.length(), 999);
        Check.readsRealm(law);
        Check.readsRealm(law + " ");
        Check.readsRealm(" " + law);
        Check.readsRealm(Check.times(" ", 993) + "year 7;");
        // The thousand and first sign is left out: what is left is wrong at its end.
        Check.dueRealm(Check.times(" ", 994) + "year 7;", 1, 1000);
        Check.dueRealm("  " + law, 1, 1000);
        Check.dueRealm(law + "  year", 0, 0);
        Check.dueRealm(law + "y", 1, 999);
        LeapCapital x = new LeapCapital();
        Check.dueReign(x, Check.times("wait;", 39) + Check.times(" ", 800) + "wait;", 0, 0);
        Check.due("lines", x.count(9), 40);
        Check.dueReign(x, Check.times("wait;", 39) + Check.times(" ", 801) + "wait;", 1, 1000);
        Check.due("lines stay", x.count(9), 40);
    }

    private static void whatReadsItTakesIt() {
        Check.says("what reads it takes it: it is empty then");
        String[][] texts = {{"year 5;", "wait;"}, {"", ""}, {"year 0;", "wait"}, {"#", "#"}};
        for (String[] text : texts) {
            LeapCapital x = new LeapCapital();
            Check.realm(x, text[0]);
            Check.due("behind realm <" + text[0] + ">", x.count(12), 0);
            Check.due("another one reads nothing", x.reign(), 0);
            Check.reign(x, text[1]);
            Check.due("behind reign <" + text[1] + ">", x.count(12), 0);
            Check.due("another one reads nothing", x.realm(), 0);
        }
        LeapCapital y = new LeapCapital();
        Check.feed(y, "year 5;");
        y.waits();
        y.undo();
        y.mark(0, false);
        y.mark(0, true);
        y.judged(0);
        Check.due("nothing else takes it", y.count(12), 7);
        Check.due("realm()", y.realm(), 0);
    }

    private static void blanks() {
        Check.says("blanks (10, 32) between where one likes");
        Check.readsRealm("");
        Check.readsRealm(" ");
        Check.readsRealm("\n");
        Check.readsRealm(" \n person\na\n\n plain  born\n1 plea 2 \n ;\n");
        Check.readsRealm("person a plain born1plea2;year3;candle4;lives5;first(stood)+not(1<2)*3;");
        Check.faultOfRealm(1, "^ye ar 1;");
        Check.faultOfRealm(1, "^ye\nar 1;");
        Check.faultOfRealm(1, "year 1 ^1;");
        LeapCapital x = new LeapCapital();
        Check.readsReign(x, " wait\n;\nride ;lamp4 ; ");
        Check.due("lines", x.count(9), 3);
    }

    private static void lengthsOfWords() {
        Check.says("WORDS (letters a .. z, 8 at most); a longer WORD, at its first sign, is none");
        for (int length = 1; length <= 8; length++) {
            Check.readsRealm("person " + Check.times("z", length) + " plain born 1 plea 1;");
        }
        Check.faultOfRealm(1, "person ^zzzzzzzzz plain born 1 plea 1;");
        Check.faultOfRealm(1, "person ^" + Check.times("a", 500) + " plain born 1 plea 1;");
        // Thirteen letters on, what was ahead of them is lost in 64 bits: it is none all the same.
        Check.faultOfRealm(1, "^aaaaaaaaaaaaayear 1;");
        Check.faultOfRealm(1, "^persona a plain born 1 plea 1;");
        LeapCapital x = Check.told("person abcdefgh plain born 1 plea 1;person abcdefg plain born 1 plea 1;");
        Check.readsReign(x, "come abcdefgh;come abcdefg;");
        Check.faultOfReign(x, 1, "come ^abcdefghi;");
        Check.faultOfReign(x, 2, "come ^abcdef;");
        Check.faultOfReign(x, 2, "come ^abcdefgi;");
        Check.faultOfReign(x, 2, "come ^bbcdefgh;");
    }

    private static void lengthsOfNumbers() {
        Check.says("NUMBERS (1 to 4 digits); a longer NUMBER, at its first sign, is none");
        String[][] places = {{"person a plain born ", " plea 1;"}, {"person a plain born 1 plea ", ";"}, {"year ", ";"},
            {"candle ", ";"}, {"lives ", ";"}, {"first ", ";"}};
        for (String[] place : places) {
            for (String number : new String[] {"1", "01", "001", "0001"}) {
                Check.readsRealm(place[0] + number + place[1]);
            }
            for (String number : new String[] {"00001", "000001", "99999", "10000", Check.times("0", 400) + "1"}) {
                Check.faultOfRealm(1, place[0] + "^" + number + place[1]);
            }
            Check.faultOfRealm(1, place[0].trim() + " ^" + place[1].trim());
        }
        // 4294967297 is 1 in 32 bits: a NUMBER that long is none.
        Check.faultOfRealm(1, "year ^4294967297;");
        // Nor is it one of the signs, though 59 is the code of ; and 40 and 41 are those of ( ).
        Check.faultOfRealm(1, "year 1 ^00059");
        Check.faultOfRealm(1, "first ^00040 1 00041;");
        Check.readsRealm("first 9999;");
        Check.readsRealm("first 0;");
        LeapCapital x = new LeapCapital();
        Check.readsReign(x, "lamp 1;lamp 01;lamp 001;lamp 0001;");
        Check.faultOfReign(x, 1, "lamp ^00001;");
        Check.faultOfReign(x, 1, "lamp ^10000;");
    }

    private static void whatStandsRightBehind() {
        Check.says("a letter may stand right behind (a NUMBER)");
        Check.readsRealm("first 5and 3or 1;");
        Check.readsRealm("person a plain born 1plea 1;");
        Check.readsRealm("first 9999and 9999;");
        Check.faultOfRealm(1, "first ^99999and 9999;");
        Check.faultOfRealm(1, "year 1^a;");
        Check.says("TOKENS, each as long as can be (a digit right behind a WORD begins a NUMBER)");
        Check.readsRealm("year1234;");
        Check.faultOfRealm(1, "person a^1 plain born 1 plea 1;");
        Check.faultOfRealm(1, "first stood^1;");
    }

    private static void signsThatAreTokens() {
        Check.says("the signs ( ) < = + - * ;  All else is none");
        for (char sign = 33; sign < 127; sign++) {
            boolean letter = sign >= 'a' && sign <= 'z';
            boolean digit = sign >= '0' && sign <= '9';
            String name = "person " + sign + " plain born 1 plea 1;";
            Check.dueRealm(name, letter ? 0 : 1, letter ? 0 : 7);
            Check.dueRealm("first " + sign + ";", digit ? 0 : 1, digit ? 0 : sign == '(' ? 7 : 6);
            // Between two NUMBERS stands one of five signs; a digit makes one NUMBER of three, ; ends the line.
            boolean joins = "<=+-*".indexOf(sign) >= 0 || digit;
            Check.dueRealm("first 1" + sign + "1;", joins ? 0 : 1, joins ? 0 : sign == ';' ? 8 : 7);
            boolean ends = sign == ';';
            Check.dueRealm("year 1" + sign, ends ? 0 : 1, ends ? 0 : digit ? 7 : 6);
        }
        for (char sign : SIGNS.toCharArray()) {
            Check.dueRealm(String.valueOf(sign), 1, 0);
        }
        Check.readsRealm("first (1)*(2)+(3)-4<5;");
        Check.readsRealm("first (1)*(2)+(3)-4=5;");
    }
}

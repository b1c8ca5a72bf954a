/** The bounds of number 1 of the terms: the E of first: its form, how deep it may be, what comes of it. */
public final class BoundsLawTest {
    private static final String TWO = "person a plain born 1890 plea 1;person b plain born 1890 plea 2;";
    /** 2147483647, the greatest int, as a SUM. */
    private static final String GREATEST = "2147*1000*1000+483*1000+647";

    public static void main(String[] args) {
        form();
        fourDeep();
        fiveDeep();
        nothingStandsWithinFive();
        besideOneAnother();
        oneOrZero();
        whatIsNotZero();
        fromTheLeft();
        whatBindsFirst();
        numbers();
        intsWrap();
        orderByInts();
        facts();
        theLongestLaws();
        Check.end();
    }

    /** What an E is worth, whoever it is of: b is ahead of a if, and only if, it is that. */
    private static void worth(String law, String number) {
        LeapCapital x = Check.told(TWO + "first (" + law + ")=" + number + " and asks=2;");
        x.come(0);
        x.come(1);
        Check.due(law + " is " + number, x.call(0), 1);
        // Something else it is not.
        LeapCapital y = Check.told(TWO + "first (" + law + ")=" + number + "+1 and asks=2;");
        y.come(0);
        y.come(1);
        Check.due(law + " is no more than " + number, y.call(0), 0);
    }

    private static void form() {
        Check.says("E: TEST { and TEST or or TEST }; TEST: SUM, or SUM < SUM, or SUM = SUM; "
                + "SUM: PRODUCT { + or - PRODUCT }; PRODUCT: PART { * PART }; PART: a NUMBER, a fact, not PART, ( E )");
        for (String law : new String[] {"1", "stood", "asks", "age", "days", "not 1", "(1)", "1+1", "1-1", "1*1", "1<1", "1=1",
            "1 and 1", "1 or 1", "not(1)", "(not 1)", "not not 1", "1<1 and 1=1 or 1<1", "1+1*1<1-1*1", "1*1*1+1+1-1-1",
            "(1<1)<1", "1=(1=1)", "(1 and 1)*(1 or 1)", "not(1 and 1)+1"}) {
            Check.readsRealm("first " + law + ";");
        }
        for (String law : new String[] {"^", "^;", "^and 1", "^or", "^)", "^<1", "^=", "^+1", "^-1", "^*", "1 ^1", "1 ^stood",
            "stood ^1", "1 ^not 1", "1 ^(1)", "(1) ^(1)", "1+^", "1-^-1", "1+^+1", "1*^*1", "1<^<1", "1=^=1", "1<^=1", "1 and ^",
            "1 and ^and 1", "1 or ^or 1", "1 and ^or 1", "1<1^<1", "1=1^=1", "1<1^=1", "(^)", "(1^", "(1^;)", "1^)", "((1)^", "not ^",
            "not ^and", "not ^+1", "(^*1)", "(1<1^<1)", "^plea", "^born", "^first", "^plain", "^a", "^stands", "1^/1", "1^!1"}) {
            Check.faultOfRealm(1, "first " + law + ";");
        }
    }

    /** A PART within as many of not and ( ) as there are bits; a bit that is set is a ( ). */
    private static String within(int mask, int many, String part) {
        StringBuilder text = new StringBuilder();
        StringBuilder behind = new StringBuilder();
        for (int i = 0; i < many; i++) {
            boolean open = (mask >> i & 1) != 0;
            text.append(open ? "( " : "not ");
            behind.append(open ? ")" : "");
        }
        return text + part + behind;
    }

    private static void fourDeep() {
        Check.says("no PART lies within 5 of not and ( )");
        for (int many = 0; many <= 4; many++) {
            for (int mask = 0; mask < 1 << many; mask++) {
                for (String part : new String[] {"1", "stood", "9999", "days"}) {
                    Check.readsRealm("first " + within(mask, many, part) + ";");
                }
            }
        }
    }

    private static void fiveDeep() {
        Check.says("5 one too many: .. not, or a PART, within 5 others");
        for (int mask = 0; mask < 1 << 5; mask++) {
            for (String part : new String[] {"1", "stood", "asks", "age", "days", "not 1", "(1)", "not", "("}) {
                Check.faultOfRealm(5, "first " + within(mask, 5, "^" + part) + ";");
                Check.faultOfRealm(5, "first " + within(mask, 5, "^" + part));
            }
        }
        for (int many : new int[] {6, 7, 60, 200}) {
            Check.faultOfRealm(5, "first (((((^" + Check.times("(", many - 5) + "1" + Check.times(")", many) + ";");
            Check.faultOfRealm(5, "first not not not not not ^" + Check.times("not ", many - 5) + "1;");
        }
        Check.faultOfRealm(5, "first " + Check.times("(", 5) + "^" + Check.times("(", 989));
    }

    private static void nothingStandsWithinFive() {
        Check.says("of the first token that is wrong the least: 1 it is none, or can't stand there");
        for (int mask = 0; mask < 1 << 5; mask++) {
            for (String other : new String[] {";", ")", "+", "*", "<", "and", "or", "plea", "king", "#", "10000", "abcdefghi", ""}) {
                Check.faultOfRealm(1, "first " + within(mask, 5, "^" + other));
            }
        }
    }

    private static void besideOneAnother() {
        Check.says("within 5: those that are closed count no more");
        Check.readsRealm("first ((((1))))+((((1))))*((((1))))<((((1)))) and ((((1))));");
        Check.readsRealm("first not not not not 1+not not not not 1;");
        Check.readsRealm("first (((1+(1)*(1)<(1) or (1))));");
        Check.faultOfRealm(5, "first ((((1))))+((((1+(^1)))));");
        Check.faultOfRealm(5, "first ((1)+((1)+((1)+((^1)))));");
        Check.faultOfRealm(5, "first (1+(1+(1+(1+(^1)))));");
        Check.faultOfRealm(5, "first (1+(1+(1+(1+not ^1))));");
        Check.readsRealm("first (1+(1+(1+(1+1))));");
        Check.readsRealm("first (1+(1+(1+not 1)));");
    }

    private static void oneOrZero() {
        Check.says("Of not, and, or, < and = comes 1 or 0");
        String[][] rows = {{"not 0", "1"}, {"not 1", "0"}, {"not 2", "0"}, {"not 9999", "0"}, {"not not 7", "1"},
            {"2 and 3", "1"}, {"2 and 0", "0"}, {"0 and 2", "0"}, {"0 and 0", "0"}, {"2 or 3", "1"}, {"2 or 0", "1"}, {"0 or 2", "1"},
            {"0 or 0", "0"}, {"1<2", "1"}, {"2<2", "0"}, {"3<2", "0"}, {"2=2", "1"}, {"2=3", "0"}, {"3=2", "0"}, {"0=0", "1"},
            {"(5<6)+(5=5)+(5 and 5)+(0 or 5)+not 0", "5"}};
        for (String[] row : rows) {
            worth(row[0], row[1]);
        }
    }

    private static void whatIsNotZero() {
        Check.says("what is not 0 is so");
        worth("not(0-1)", "0");
        worth("(0-1) and (0-9999)", "1");
        worth("0 or 0-1", "1");
        worth("not(5-5)", "1");
        worth("256*256*256*256 or 0", "0");
        worth("256*256*256*128 and 1", "1");
    }

    private static void fromTheLeft() {
        Check.says("E: TEST { and TEST or or TEST }, from the left");
        worth("1 or 1 and 0", "0");
        worth("1 or 0 and 0", "0");
        worth("0 and 0 or 1", "1");
        worth("0 and 1 or 1 and 1", "1");
        worth("1 or (1 and 0)", "1");
        worth("9-4-3", "2");
        worth("9-4+3", "8");
        worth("9-(4+3)", "2");
        worth("0-9+4", "0-5");
    }

    private static void whatBindsFirst() {
        Check.says("SUM: PRODUCT ..; PRODUCT: PART ..; not PART");
        worth("2+3*4", "14");
        worth("2*3+4", "10");
        worth("(2+3)*4", "20");
        worth("2*(3+4)", "14");
        worth("9-2*3", "3");
        worth("not 0+1", "2");
        worth("not 2*3", "0");
        worth("not(2-2)*3", "3");
        worth("not 0*5", "5");
        worth("not 1<2", "1");
        worth("not 0 and 0", "0");
        worth("not(1<2)", "0");
        worth("1<2+3", "1");
        worth("2+3<1+4", "0");
        worth("2*3=3+3", "1");
        worth("5<6 and 6<5", "0");
        worth("7 and 2<3", "1");
    }

    private static void numbers() {
        Check.says("PART: a NUMBER (1 to 4 digits)");
        worth("0", "0");
        worth("0000", "0");
        worth("0012", "12");
        worth("9999", "9999");
        worth("9999+1", "100*100");
        // Whatever the facts are: 0 is not the DAYS since.
        LeapCapital x = Check.told("person a plain born 1890 plea 19;person b plain born 1890 plea 20;first asks*(0=1);");
        x.come(0);
        x.come(1);
        x.ride();
        Check.due("a DAY since", x.person(0, 7), 1);
        Check.dueCalls(x, "01");
    }

    private static void intsWrap() {
        Check.says("ints wrap");
        worth(GREATEST, GREATEST);
        worth(GREATEST + "+1<0", "1");
        worth(GREATEST + "+0<0", "0");
        worth(GREATEST + "+1", "0-" + "1024*1024*1024*2");
        worth("0-2147*1000*1000-483*1000-647<0", "1");
        worth("0-2147*1000*1000-483*1000-648<0", "1");
        worth("0-2147*1000*1000-483*1000-649<0", "0");
        worth("0-2147*1000*1000-483*1000-649", GREATEST);
        worth("1024*1024*1024<0", "0");
        worth("1024*1024*1024*2<0", "1");
        worth("1024*1024*1024*4", "0");
        worth("1024*1024*1024*4*1024+3", "3");
        worth("256*256*256*256+1", "1");
        worth("1000*1000*1000*1000", "0-727*1000*1000-379*1000-968");
    }

    private static void orderByInts() {
        Check.says("first those by whom the E of first is the greatest (ints wrap)");
        dueOrder(GREATEST + "-2+asks", "10");
        dueOrder(GREATEST + "-1+asks", "01");
        dueOrder("0-2147*1000*1000-483*1000-646-asks", "01");
        dueOrder("0-2147*1000*1000-483*1000-647-asks", "10");
        dueOrder("512*1024*1024*asks", "10");
        dueOrder("1024*1024*1024*asks", "01");
        dueOrder("0-asks", "01");
        dueOrder("asks", "10");
        Check.says("those of leap ahead of all others");
        // The least int of one of leap is ahead of the greatest one of another.
        LeapCapital x = Check.told("person a plain born 1890 plea 1;person b leap born 1890 plea 2;first " + GREATEST + "-1+asks;");
        x.come(0);
        x.come(1);
        Check.dueCalls(x, "10");
    }

    private static void dueOrder(String law, String order) {
        LeapCapital x = Check.told(TWO + "first " + law + ";");
        x.come(0);
        x.come(1);
        Check.dueCalls(x, order);
    }

    private static void facts() {
        Check.says("Facts: stood (years since he came), asks (his plea), age (years since he was born), days (DAYS since he came)");
        String people = "person a plain born 1896 plea 20;person b heir born 1 plea 20;year 1896;candle 19;first ";
        // By the law, b is ahead of a when b's facts are those; else a is, who came first.
        int[][] rows = {{0, 0, 1895, 0}, {1, 1, 1896, 0}, {7, 7, 1902, 0}, {8, 8, 1903, 1}, {12, 12, 1907, 2}, {48, 48, 1943, 11}};
        for (int[] row : rows) {
            String[] laws = {"stood=" + row[1], "age=" + row[2], "days=" + row[3], "asks=20"};
            for (String law : laws) {
                dueFact(people + "(" + law + ")*(99<age);", row[0], 1);
            }
            String[] others = {"stood=" + (row[1] + 1), "stood<" + row[1], "age=" + (row[2] + 1), "age<" + row[2],
                "days=" + (row[3] + 1), "days<" + row[3], "asks=19", "asks=10"};
            for (String law : others) {
                dueFact(people + "(" + law + ")*(99<age);", row[0], 0);
            }
        }
        Check.says("age (years since he was born), from 0 on");
        LeapCapital x = Check.told("person a plain born 1890 plea 1;person b plain born 1896 plea 1;first age=0;");
        x.come(0);
        x.come(1);
        Check.dueCalls(x, "10");
        x.waits();
        Check.dueCalls(x, "01");
    }

    private static void dueFact(String realm, int years, int first) {
        LeapCapital x = Check.told(realm);
        x.come(0);
        x.come(1);
        for (int i = 0; i < years; i++) {
            x.waits();
        }
        Check.due(realm + " behind " + years + " years", x.call(0), first);
    }

    private static void theLongestLaws() {
        Check.says("The TAPE has at most 1,000 signs; no PART lies within 5 (as much left open as can be)");
        dueOrder("0 or 0<0+1*(0 or 0<0+1*(0 or 0<0+1*(0 or 0<0+1*(0 or 1<0+1*asks))))", "10");
        dueOrder("0 or 0<0+1*(0 or 0<0+1*(0 or 0<0+1*(0 or 0<0+1*(0 or 2<0+1*asks))))", "01");
        // What the two persons' lines leave of 1,000 signs, "first " and ";".
        int room = 1000 - TWO.length() - 7;
        String sum = Check.times("asks+", room / 5 - 1);
        dueOrder(sum + "asks", "10");
        dueOrder(Check.times("0-", room / 2 - 3) + "asks", "01");
        dueOrder(Check.times("1*", room / 2 - 3) + "asks", "10");
        dueOrder(Check.times("0 or ", room / 5 - 2) + "1<asks", "10");
        dueOrder(Check.times("1 and ", room / 6 - 1) + "asks=1", "01");
        dueOrder(Check.times("((((asks))))+", room / 13 - 1) + "asks", "10");
    }
}

/** The bounds of number 1 of the terms: REALM, REIGN, NAMES, FAULTS; promises 3 and 4. */
public final class BoundsRealmTest {
    private static final String[] KEPT = {"person", "born", "plea", "year", "candle", "lives", "first", "come", "leave", "lamp",
        "wait", "ride", "plain", "leap", "heir", "lover", "not", "and", "or"};
    private static final String[] ACTS = {"come", "leave", "lamp", "wait", "ride"};
    private static final String A = "person a plain born 1 plea 1;";

    public static void main(String[] args) {
        anyNumber();
        sixPersons();
        kinds();
        numbersOfAPerson();
        numbersOfARealm();
        withoutThem();
        onceEach();
        names();
        linesOfAReign();
        fortyLines();
        lamps();
        theFirstTokenThatIsWrong();
        theLeastOfAToken();
        theEnd();
        aFaultChangesNothing();
        aRealmBeginsAnew();
        namesOfEarlierRealms();
        aReignIsTheReign();
        Check.end();
    }

    private static String persons(int many) {
        StringBuilder text = new StringBuilder();
        for (int i = 0; i < many; i++) {
            text.append("person p").append((char) ('a' + i)).append(" plain born 1850 plea 1;");
        }
        return text.toString();
    }

    private static void anyNumber() {
        Check.says("REALM: any number of ..; REIGN: any number of ..");
        LeapCapital x = new LeapCapital();
        Check.due("none", x.realm(), 0);
        Check.due("none", x.reign(), 0);
        Check.due("persons", x.count(0), 0);
        Check.due("lines", x.count(9), 0);
        Check.readsRealm("first 1;lives 1;" + A + "candle 1;person b heir born 2 plea 2;year 1;");
        Check.readsRealm("person a plain born 1 plea 1 ; year 1 ; candle 1 ; lives 1 ; first 1 ;");
    }

    private static void sixPersons() {
        Check.says("person: 6 at most, numbered as told");
        for (int many = 0; many <= 6; many++) {
            LeapCapital x = Check.told(persons(many));
            Check.due("persons", x.count(0), many);
            Check.due("the last one", x.person(many - 1, 2), many > 0 ? 1 : -2);
            Check.due("the one behind it", x.person(many, 2), -2);
        }
        Check.says("5 one too many: the word person of a seventh");
        Check.faultOfRealm(5, persons(6) + "^person pg plain born 1850 plea 1;");
        Check.faultOfRealm(5, persons(6) + "^person");
        Check.faultOfRealm(5, persons(6) + "year 7; ^person pa;");
        Check.faultOfRealm(1, persons(6) + "^persons");
        Check.faultOfRealm(1, persons(6) + "^;person");
        Check.readsRealm(persons(6) + "year 7;candle 7;lives 7;first 7;");
        LeapCapital x = Check.told("person b heir born 5 plea 6;person a lover born 7 plea 8;");
        Check.due("numbered as told", x.person(0, 1), 5);
        Check.due("numbered as told", x.person(1, 1), 7);
    }

    private static void kinds() {
        Check.says("KIND: plain, leap, heir, lover");
        LeapCapital x = Check.told("person a plain born 1 plea 1;person b leap born 1 plea 1;"
                + "person c heir born 1 plea 1;person d lover born 1 plea 1;");
        for (int kind = 0; kind < 4; kind++) {
            Check.due("kind", x.person(kind, 0), kind);
        }
        for (String other : new String[] {"or", "ride", "not", "born", "king", "plai", "plaina", "lovers", "1", ";", "stood"}) {
            Check.faultOfRealm(1, "person a ^" + other + " born 1 plea 1;");
        }
        Check.faultOfRealm(1, "person a ^");
        Check.faultOfRealm(1, "person a plain ^plain born 1 plea 1;");
    }

    private static void numbersOfAPerson() {
        Check.says("born 1 to 3000, plea 1 to 20");
        LeapCapital x = Check.told("person a plain born 1 plea 1;person b plain born 3000 plea 20;");
        Check.due("born", x.person(0, 1), 1);
        Check.due("born", x.person(1, 1), 3000);
        Check.due("plea", x.person(0, 2), 1);
        Check.due("plea", x.person(1, 2), 20);
        for (String other : new String[] {"0", "0000", "3001", "9999"}) {
            Check.faultOfRealm(4, "person a plain born ^" + other + " plea 1;");
        }
        for (String other : new String[] {"0", "0000", "21", "9999"}) {
            Check.faultOfRealm(4, "person a plain born 1 plea ^" + other + ";");
        }
        Check.faultOfRealm(1, "person a plain ^plea 1 born 1;");
        Check.faultOfRealm(1, "person a plain born ^plea 1;");
        Check.faultOfRealm(1, "person a plain born ^-1 plea 1;");
        Check.faultOfRealm(1, "person a plain born 1 ^;");
        Check.faultOfRealm(1, "person a plain born 1 plea 1 ^plea 1;");
    }

    private static void numbersOfARealm() {
        Check.says("year 1 to 3000 (1896). candle 1 to 40 (10). lives 1 to 120 (70)");
        String[] words = {"year", "candle", "lives"};
        int[] most = {3000, 40, 120};
        for (int i = 0; i < 3; i++) {
            for (int told : new int[] {1, 2, most[i] - 1, most[i]}) {
                LeapCapital x = Check.told(words[i] + " " + told + ";");
                Check.due(words[i], x.count(1 + i), told);
            }
            for (int other : new int[] {0, most[i] + 1, 9999}) {
                Check.faultOfRealm(4, words[i] + " ^" + other + ";");
            }
            Check.faultOfRealm(1, words[i] + " ^- 1;");
            Check.faultOfRealm(1, words[i] + " ^;");
            Check.faultOfRealm(1, words[i] + " ^a;");
        }
    }

    private static void withoutThem() {
        Check.says("(1896) (10) (70); Without first: stood");
        LeapCapital x = Check.told("year 5;candle 6;lives 7;first asks;");
        Check.due("another realm", Check.realm(x, "person a plain born 1890 plea 1;person b plain born 1890 plea 2;"), 0);
        Check.dueCounts("told anew", x, 2, 1896, 10, 70);
        x.come(0);
        x.come(1);
        Check.dueCalls(x, "01");
        x.leave(0);
        x.waits();
        x.come(0);
        Check.dueCalls(x, "10");
    }

    private static void onceEach() {
        Check.says("year, candle, lives, first: once each; 3 .. a second time");
        for (String word : new String[] {"year", "candle", "lives", "first"}) {
            Check.faultOfRealm(3, word + " 1;^" + word + " 1;");
            Check.faultOfRealm(3, word + " 1;" + A + "^" + word);
            Check.faultOfRealm(3, "year 1;candle 1;lives 1;first 1;^" + word + ";");
            Check.faultOfRealm(1, word + " 1;^" + word + "s 1;");
        }
        // Once in each text: a text that was wrong, or another one, tells nothing of this one.
        LeapCapital x = new LeapCapital();
        Check.due("wrong", Check.realm(x, "year 5;candle 0;"), 4 + 16 * 14);
        Check.due("told", Check.realm(x, "year 5;candle 1;"), 0);
        Check.due("told again", Check.realm(x, "year 6;candle 2;"), 0);
        Check.due("year", x.count(1), 6);
    }

    private static void names() {
        Check.says("A NAME is another WORD than person, born, .. not, and, or");
        LeapCapital x = Check.told(A);
        for (String kept : KEPT) {
            Check.faultOfRealm(1, "person ^" + kept + " plain born 1 plea 1;");
            Check.faultOfReign(x, 1, "come ^" + kept + ";");
            Check.faultOfReign(x, 1, "leave ^" + kept + ";");
        }
        for (String kept : KEPT) {
            String longer = kept.length() < 8 ? kept + "x" : kept.substring(1);
            String shorter = kept.substring(1);
            Check.readsRealm("person " + longer + " plain born 1 plea 1;person " + shorter + " plain born 1 plea 1;");
        }
        for (String free : new String[] {"stood", "asks", "age", "days"}) {
            LeapCapital y = Check.told("person " + free + " plain born 1 plea 1;");
            Check.readsReign(y, "come " + free + ";leave " + free + ";");
        }
        for (String other : new String[] {"1", ";", "(", "A", "#", "abcdefghi"}) {
            Check.faultOfRealm(1, "person ^" + other + " plain born 1 plea 1;");
            Check.faultOfReign(x, 1, "come ^" + other + ";");
        }
        Check.says("no two are alike; 3 a NAME told already");
        Check.faultOfRealm(3, A + "person ^a plain born 1 plea 1;");
        Check.faultOfRealm(3, A + "person b plain born 1 plea 1;person ^a");
        Check.faultOfRealm(3, persons(5) + "person ^pe lover;");
        Check.faultOfRealm(3, persons(5) + "person ^pa");
        Check.readsRealm(A + "person aa plain born 1 plea 1;person aaaaaaaa plain born 1 plea 1;person aaaaaaab plain born 1 plea 1;");
        Check.says("2 a NAME of no PERSON (behind come, leave) told");
        Check.faultOfReign(x, 2, "come ^b;");
        Check.faultOfReign(x, 2, "leave ^aa;");
        Check.faultOfReign(x, 2, "come a;leave ^stood;");
        Check.faultOfReign(new LeapCapital(), 2, "come ^a;");
        LeapCapital six = Check.told(persons(6));
        Check.readsReign(six, "come pa;come pf;leave pa;leave pf;");
        Check.faultOfReign(six, 2, "come ^pg;");
    }

    private static void linesOfAReign() {
        Check.says("REIGN: any number of   come NAME ;   leave NAME ;   lamp N ;   wait ;   ride ;");
        LeapCapital x = Check.told(A);
        Check.readsReign(x, "come a;leave a;lamp 1;wait;ride;");
        Check.due("lines", x.count(9), 5);
        for (String act : ACTS) {
            Check.faultOfReign(x, 1, act + "^");
            Check.faultOfReign(x, 1, act.startsWith("w") || act.startsWith("r") ? act + " ^a;" : act + " ^;");
        }
        Check.faultOfReign(x, 1, "come a ^a;");
        Check.faultOfReign(x, 1, "come a^");
        Check.faultOfReign(x, 1, "lamp 1 ^1;");
        Check.faultOfReign(x, 1, "wait;^;");
        for (String other : new String[] {"a", "person", "born", "first", "plain", "lover", "not", "stood", "1", ";", "waits"}) {
            Check.faultOfReign(x, 1, "^" + other + ";");
            Check.faultOfRealm(1, "^" + (other.equals("person") || other.equals("first") ? "ride" : other) + ";");
        }
        for (String act : ACTS) {
            Check.faultOfRealm(1, "^" + act + " a;");
        }
    }

    private static void fortyLines() {
        Check.says("40 lines at most; 5 one too many: the first word of a 41st line of a REIGN");
        LeapCapital x = Check.told(A);
        for (int lines : new int[] {1, 39, 40}) {
            Check.readsReign(x, Check.times("ride;", lines));
            Check.due("lines", x.count(9), lines);
        }
        String forty = Check.times("lamp 1;", 39) + "come a;";
        Check.readsReign(x, forty);
        for (String act : ACTS) {
            Check.faultOfReign(x, 5, forty + "^" + act);
            Check.faultOfReign(x, 5, forty + " ^" + act + " nobody;");
        }
        Check.faultOfReign(x, 1, forty + "^person");
        Check.faultOfReign(x, 1, forty + "^;");
        Check.faultOfReign(x, 1, forty + "^7");
        Check.faultOfReign(x, 1, forty + "^#");
        Check.due("lines stay", x.count(9), 40);
    }

    private static void lamps() {
        Check.says("lamp N ; (.. 1 to 20)");
        LeapCapital x = new LeapCapital();
        Check.readsReign(x, "lamp 1;lamp 20;");
        for (String other : new String[] {"0", "21", "9999", "0000"}) {
            Check.faultOfReign(x, 4, "lamp ^" + other + ";");
        }
        Check.faultOfReign(x, 1, "lamp ^- 1;");
        Check.faultOfReign(x, 1, "lamp ^a;");
    }

    private static void theFirstTokenThatIsWrong() {
        Check.says("FAULTS: of the first token from the left that is wrong");
        LeapCapital x = Check.told(A);
        Check.faultOfRealm(4, "year ^0;candle 0;year 1;#");
        Check.faultOfRealm(3, "year 1;^year 0;#");
        Check.faultOfRealm(1, "year 1 ^year 0;#");
        Check.faultOfRealm(5, persons(6) + "^person pa plain born 0 plea 0;");
        Check.faultOfRealm(4, A + "person b plain born ^0 plea 0;person a");
        Check.faultOfRealm(3, A + "person ^a king;");
        Check.faultOfReign(x, 2, "come ^b lamp 0;");
        Check.faultOfReign(x, 4, "lamp ^0 come b;");
        Check.faultOfReign(x, 5, Check.times("wait;", 40) + "^come b;");
        Check.faultOfRealm(1, "^#");
        Check.faultOfReign(x, 1, "^#");
        // A token is as wrong at the very end of the longest text.
        Check.dueRealm(Check.times(" ", 999) + "#", 1, 999);
        Check.dueRealm("year" + Check.times(" ", 995) + "0", 4, 999);
        Check.dueReign(x, "come" + Check.times(" ", 995) + "b", 2, 999);
    }

    private static void theLeastOfAToken() {
        Check.says("of the first token that is wrong the least");
        LeapCapital x = Check.told(A);
        // A NUMBER too long is none, not one that is not as told.
        Check.faultOfRealm(1, "year ^30000;");
        Check.faultOfReign(x, 1, "lamp ^10000;");
        // A WORD that can't be a NAME is no NAME of no PERSON, nor one told already.
        Check.faultOfReign(x, 1, "come ^person;");
        Check.faultOfReign(x, 1, "come ^aaaaaaaaa;");
        Check.faultOfRealm(1, A + "person ^heir");
        // What can't begin a line is not one line too many; what can't begin a PART not one PART too many.
        Check.faultOfReign(x, 1, Check.times("wait;", 40) + "^a;");
        Check.faultOfRealm(1, "first (((((^and");
    }

    private static void theEnd() {
        Check.says("the end being one at the text's length");
        LeapCapital x = Check.told(A);
        String[] realms = {"person", "person a", "person a plain", "person a plain born", "person a plain born 1",
            "person a plain born 1 plea", "person a plain born 1 plea 1", "year", "year 1", "candle", "candle 1", "lives",
            "lives 1", "first", "first 1", "first (", "first (1", "first not", "first 1+", "first 1 and", "first 1<"};
        for (String text : realms) {
            Check.faultOfRealm(1, text + "^");
            Check.faultOfRealm(1, text + " \n ^");
            Check.faultOfRealm(1, Check.times(" ", 1000 - text.length()) + text + "^");
        }
        for (String text : new String[] {"come", "come a", "leave", "leave a", "lamp", "lamp 1", "wait", "ride"}) {
            Check.faultOfReign(x, 1, text + "^");
            Check.faultOfReign(x, 1, text + "  ^");
        }
    }

    private static void aFaultChangesNothing() {
        Check.says("0, or its FAULT (all stays then)");
        LeapCapital x = Check.told("person a plain born 1850 plea 6;person b plain born 1850 plea 7;"
                + "year 1900;candle 9;lives 60;first asks;");
        Check.reign(x, "come a;wait;");
        x.come(0);
        x.come(1);
        x.lamp(3);
        x.waits();
        x.say(1, true);
        x.mark(1, false);
        int[] counts = {2, 1901, 9, 60, 3, 2, 3, 0, 0, 2, 1, 4, 0};
        String[] wrong = {"#", "year 5;candle 3;lives 2;person c heir born 7 plea 7;person d heir born 8 plea 8;first stood;year",
            "person a plain born 1 plea 21;", "first 0-asks;;", "year"};
        for (String text : wrong) {
            Check.due("wrong", Check.realm(x, text) != 0, true);
            Check.dueCounts("behind a wrong realm", x, counts);
            Check.due("wrong", Check.reign(x, "lamp 1;" + text + "a") != 0, true);
            Check.dueCounts("behind a wrong reign", x, counts);
        }
        Check.dueCalls(x, "10");
        Check.due("person", x.person(1, 2), 7);
        Check.due("judged", x.judged(0), -1);
        Check.due("said", x.fits(0), 485);
        Check.due("the mark", x.mark(1, true), true);
        Check.due("names as they were", Check.reign(x, "come b;"), 0);
        Check.due("no others", Check.reign(x, "come c;"), 2 + 16 * 5);
    }

    private static void aRealmBeginsAnew() {
        Check.says("Without a FAULT a REALM is the REALM from then on: the year told, nobody has come, is HEARD, no lamp, "
                + "no REIGN, nothing SAID, nothing can be undone, no MARK is there");
        for (String text : new String[] {"", "person a plain born 1850 plea 6;year 1896;"}) {
            LeapCapital x = Check.told("person a plain born 1850 plea 6;person b plain born 1850 plea 7;");
            Check.reign(x, "come a;wait;");
            x.come(0);
            x.ride();
            x.come(1);
            x.lamp(3);
            x.say(1, true);
            for (int mark = 0; mark < 4; mark++) {
                x.mark(mark, false);
            }
            Check.due("realm", Check.realm(x, text), 0);
            Check.dueCounts("anew", x, text.isEmpty() ? 0 : 1, 1896, 10, 70, 0, 0, 0, 0, 0, 0, 0, 0, 0);
            Check.due("undo()", x.undo(), false);
            for (int mark = 0; mark < 4; mark++) {
                Check.due("mark(" + mark + ", true)", x.mark(mark, true), false);
            }
            Check.due("fits(0)", x.fits(0), 2000);
            Check.due("judged(0)", x.judged(0), -1);
            Check.due("come(0)", x.come(0), text.isEmpty() ? -1 : 0);
            Check.due("come(1)", x.come(1), -1);
        }
    }

    private static void namesOfEarlierRealms() {
        Check.says("2 a NAME of no PERSON told; 3 a NAME told already (in this REALM)");
        LeapCapital x = Check.told(persons(6));
        for (int i = 0; i < 3; i++) {
            Check.due("another realm", Check.realm(x, "person q plain born 1 plea 1;"), 0);
            Check.faultOfReign(x, 2, "come ^pa;");
            Check.faultOfReign(x, 2, "come ^pb;");
            Check.faultOfReign(x, 2, "leave ^pf;");
            Check.readsReign(x, "come q;");
        }
        Check.due("told anew", Check.realm(x, "person pb plain born 1 plea 1;person pa plain born 1 plea 1;"), 0);
        Check.due("told anew", Check.realm(x, "person pf plain born 1 plea 1;person q plain born 1 plea 1;person pb plain born 1 plea 1;"), 0);
        Check.faultOfReign(x, 2, "come ^pa;");
        Check.due("a wrong one", Check.realm(x, "person z plain born 1 plea 1;person y plain born 0"), 4 + 16 * 49);
        Check.faultOfReign(x, 2, "come ^z;");
        Check.readsReign(x, "come pf;come q;come pb;");
    }

    private static void aReignIsTheReign() {
        Check.says("A REIGN is the REIGN");
        LeapCapital x = Check.told("person a plain born 1850 plea 6;");
        x.come(0);
        x.lamp(3);
        x.say(1, true);
        x.mark(2, false);
        Check.readsReign(x, "wait;wait;leave a;");
        Check.dueCounts("a reign", x, 1, 1896, 10, 70, 3, 1, 1, 0, 0, 3, 1, 2, 0);
        Check.due("judged", x.judged(0), 2);
        Check.readsReign(x, "leave a;");
        Check.due("lines", x.count(9), 1);
        Check.due("judged", x.judged(0), 0);
        Check.readsReign(x, "");
        Check.due("lines", x.count(9), 0);
        Check.due("judged", x.judged(0), -1);
        Check.due("the mark is there", x.mark(2, true), true);
    }
}

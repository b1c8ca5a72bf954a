/** Promises 1 to 4: a new object, the tape, and the faults of realms and reigns. */
public final class TapeTest {
    private static final String ANN = "person ann plain born 1850 plea 6;";

    public static void main(String[] args) {
        newObject();
        feeding();
        tokens();
        realms();
        laws();
        depths();
        reigns();
        whatARealmClears();
        Check.end();
    }

    private static void newObject() {
        LeapCapital x = new LeapCapital();
        int[] counts = {0, 1896, 10, 70, 0, 0, 0, 0, 0, 0, 0, 0, 0, -1};
        for (int what = 0; what < counts.length; what++) {
            Check.due("new count(" + what + ")", x.count(what), counts[what]);
        }
        Check.due("new person", x.person(0, 0), -2);
        Check.due("new undo", x.undo(), false);
        Check.due("new mark", x.mark(0, true), false);
    }

    private static void feeding() {
        LeapCapital x = new LeapCapital();
        Check.due("feed nothing", x.feed(0, 0, 0), 0);
        Check.due("feed signs that are none", x.feed(-1, 0x7f80ff091f0b0d00L, 0x0102030405060708L), 0);
        Check.due("feed edges", x.feed(0x0a20207e7e0a1f7fL, 0, 0x0a00000000000000L), 7);
        Check.due("signs", x.count(12), 7);
        Check.due("read", x.realm(), 1 + 16 * 3);
        Check.due("taken", x.count(12), 0);
        // The highest byte of a comes first, the lowest of c last.
        Check.due("order", x.feed(Check.eight("year 200", 0), Check.eight("0       ", 0), Check.eight("       ;", 0)), 24);
        Check.due("order read", x.realm(), 0);
        Check.due("order year", x.count(1), 2000);
        for (int i = 0; i < 41; i++) {
            x.feed(Check.eight("        ", 0), Check.eight("        ", 0), Check.eight("        ", 0));
        }
        Check.due("nearly full", x.count(12), 984);
        Check.due("full", x.feed(Check.eight("candle 7", 0), Check.eight("        ", 0), Check.eight(";;;;;;;;", 0)), 1000);
        Check.due("more than full", x.feed(Check.eight(";;;;;;;;", 0), 0, 0), 1000);
        Check.due("without what is beyond", x.realm(), 1 + 16 * 1000);
        Check.due("empty behind a fault", x.count(12), 0);
        Check.due("empty behind a reign", Check.reign(x, "wait;ride;"), 0);
        Check.due("empty", x.count(12), 0);
    }

    private static void tokens() {
        Check.dueRealm("", 0, 0);
        Check.dueRealm("   \n ", 0, 0);
        Check.dueRealm("year1;", 0, 0);
        Check.dueRealm("year0001;", 0, 0);
        Check.dueRealm("year 00001;", 1, 5);
        Check.dueRealm("year 1", 1, 6);
        Check.dueRealm("year 1  ", 1, 8);
        Check.dueRealm("year", 1, 4);
        Check.dueRealm("\nyear\n1\n;\n", 0, 0);
        Check.dueRealm("Year 1;", 1, 0);
        Check.dueRealm("yearyearyear 1;", 1, 0);
        Check.dueRealm("year ;", 1, 5);
        Check.dueRealm("year x;", 1, 5);
        Check.dueRealm("year 1 1;", 1, 7);
        Check.dueRealm("year 1a;", 1, 6);
        Check.dueRealm("first 5and 3;", 0, 0);
        Check.dueRealm("year 1,", 1, 6);
        Check.dueRealm(";", 1, 0);
        Check.dueRealm("year 1;;", 1, 7);
        Check.dueRealm("person abcdefgh plain born 1 plea 1;", 0, 0);
        Check.dueRealm("person abcdefghi plain born 1 plea 1;", 1, 7);
        Check.dueRealm("person a1 plain born 1 plea 1;", 1, 8);
    }

    private static void realms() {
        Check.dueRealm("person a plain born1plea1;", 0, 0);
        Check.dueRealm("person a plain born 3000 plea 20;", 0, 0);
        Check.dueRealm("person a plain born 3001 plea 20;", 4, 20);
        Check.dueRealm("person a plain born 0 plea 20;", 4, 20);
        Check.dueRealm("person a plain born 1 plea 21;", 4, 27);
        Check.dueRealm("person a plain born 1 plea 0;", 4, 27);
        Check.dueRealm("person a plain plea 1 born 1;", 1, 15);
        Check.dueRealm("person a duke born 1 plea 1;", 1, 9);
        Check.dueRealm("person a born 1 plea 1;", 1, 9);
        Check.dueRealm("person 1 plain born 1 plea 1;", 1, 7);
        for (String kept : new String[] {"person", "born", "plea", "year", "candle", "lives", "first", "come", "leave",
            "lamp", "wait", "ride", "plain", "leap", "heir", "lover", "not", "and", "or"}) {
            Check.dueRealm("person " + kept + " plain born 1 plea 1;", 1, 7);
        }
        for (String name : new String[] {"stood", "asks", "age", "days", "king", "a", "zzzzzzzz", "nota"}) {
            Check.dueRealm("person " + name + " plain born 1 plea 1;", 0, 0);
        }
        Check.dueRealm(ANN + ANN, 3, ANN.length() + 7);
        Check.dueRealm(ANN + "person ann", 3, ANN.length() + 7);
        StringBuilder six = new StringBuilder();
        for (int i = 0; i < 6; i++) {
            six.append("person p").append((char) ('a' + i)).append(" heir born 1 plea 1;");
        }
        Check.dueRealm(six.toString(), 0, 0);
        Check.dueRealm(six + "person pa", 5, six.length());
        Check.dueRealm(six + "year 5;person", 5, six.length() + 7);
        Check.dueRealm(six + "persons", 1, six.length());
        Check.dueRealm("year 3000;candle 40;lives 120;first 0;", 0, 0);
        Check.dueRealm("year 3001;", 4, 5);
        Check.dueRealm("year 0;", 4, 5);
        Check.dueRealm("candle 0;", 4, 7);
        Check.dueRealm("candle 41;", 4, 7);
        Check.dueRealm("lives 0;", 4, 6);
        Check.dueRealm("lives 121;", 4, 6);
        Check.dueRealm("year 1;year", 3, 7);
        Check.dueRealm("candle 1;candle 1;", 3, 9);
        Check.dueRealm("lives 1;lives 1;", 3, 8);
        Check.dueRealm("first 1;first 1;", 3, 8);
        Check.dueRealm("come a;", 1, 0);
        Check.dueRealm("wait;", 1, 0);
        LeapCapital x = Check.told(ANN + "year 1900;candle 9;lives 60;");
        x.come(0);
        Check.due("a fault", Check.realm(x, "year 5;candle 3;lives 2;person b plain born 1 plea 1;first"), 1 + 16 * 58);
        Check.due("people stay", x.count(0), 1);
        Check.due("year stays", x.count(1), 1900);
        Check.due("candle stays", x.count(2), 9);
        Check.due("lives stays", x.count(3), 60);
        Check.due("queue stays", x.count(5), 1);
        Check.due("undone stays", x.count(11), 1);
        Check.due("an empty realm", x.realm(), 0);
        Check.due("nobody is in it", x.count(0), 0);
        Check.due("its year", x.count(1), 1896);
        Check.due("its candle", x.count(2), 10);
        Check.due("its lives", x.count(3), 70);
    }

    private static void laws() {
        Check.dueRealm("first stood+asks-age*days;", 0, 0);
        Check.dueRealm("first stood < 5 and asks = 3 or not days;", 0, 0);
        Check.dueRealm("first ;", 1, 6);
        Check.dueRealm("first -1;", 1, 6);
        Check.dueRealm("first 1+;", 1, 8);
        Check.dueRealm("first 1<2<3;", 1, 9);
        Check.dueRealm("first 1=2<3;", 1, 9);
        Check.dueRealm("first (1<2)<3;", 0, 0);
        Check.dueRealm("first 1<2 and 3=4;", 0, 0);
        Check.dueRealm("first 1 2;", 1, 8);
        Check.dueRealm("first (1;", 1, 8);
        Check.dueRealm("first 1);", 1, 7);
        Check.dueRealm("first ();", 1, 7);
        Check.dueRealm("first and;", 1, 6);
        Check.dueRealm("first 1 and;", 1, 11);
        Check.dueRealm("first 1 not 2;", 1, 8);
        Check.dueRealm("first not not 2;", 0, 0);
        Check.dueRealm("first plea;", 1, 6);
        Check.dueRealm("first king;", 1, 6);
        Check.dueRealm("first 9999*9999;", 0, 0);
        Check.dueRealm("first 10000;", 1, 6);
        Check.dueRealm("first 1/2;", 1, 7);
    }

    private static void depths() {
        Check.dueRealm("first ((((1))));", 0, 0);
        Check.dueRealm("first (((((1)))));", 5, 11);
        Check.dueRealm("first ((((((1))))));", 5, 11);
        Check.dueRealm("first (((((;", 1, 11);
        Check.dueRealm("first (((((10000", 1, 11);
        Check.dueRealm("first ((((( ", 1, 12);
        Check.dueRealm("first not not not not 1;", 0, 0);
        Check.dueRealm("first not not not not not 1;", 5, 26);
        Check.dueRealm("first not not not not not not", 5, 26);
        Check.dueRealm("first not not not not not;", 1, 25);
        Check.dueRealm("first not(not(stood+1)*2);", 0, 0);
        Check.dueRealm("first not(not(1+not(1)));", 5, 19);
        Check.dueRealm("first ((((1))))+((((1))))<((((1))));", 0, 0);
        Check.dueRealm("first " + Check.times("((((stood))))+", 70) + "1;", 0, 0);
        Check.dueRealm("first " + Check.times("1+", 490) + "1;", 0, 0);
    }

    private static void reigns() {
        LeapCapital x = Check.told(ANN + "person days lover born 1 plea 1;");
        Check.dueReign(x, "", 0, 0);
        Check.due("no lines", x.count(9), 0);
        Check.dueReign(x, "come ann;leave days;lamp 1;lamp 20;wait;ride;", 0, 0);
        Check.due("lines", x.count(9), 6);
        Check.dueReign(x, "come bob;", 2, 5);
        Check.due("lines stay", x.count(9), 6);
        Check.dueReign(x, "leave an;", 2, 6);
        Check.dueReign(x, "come plain;", 1, 5);
        Check.dueReign(x, "come 1;", 1, 5);
        Check.dueReign(x, "come;", 1, 4);
        Check.dueReign(x, "come", 1, 4);
        Check.dueReign(x, "come ann", 1, 8);
        Check.dueReign(x, "come annannann;", 1, 5);
        Check.dueReign(x, "lamp 0;", 4, 5);
        Check.dueReign(x, "lamp 21;", 4, 5);
        Check.dueReign(x, "lamp ann;", 1, 5);
        Check.dueReign(x, "lamp 00020;", 1, 5);
        Check.dueReign(x, "wait ann;", 1, 5);
        Check.dueReign(x, "ride", 1, 4);
        Check.dueReign(x, "year 5;", 1, 0);
        Check.dueReign(x, "ann;", 1, 0);
        Check.dueReign(x, "plain;", 1, 0);
        Check.dueReign(x, "first;", 1, 0);
        Check.dueReign(x, Check.times("wait;", 40), 0, 0);
        Check.due("forty lines", x.count(9), 40);
        Check.dueReign(x, Check.times("wait;", 41), 5, 200);
        Check.dueReign(x, Check.times("wait;", 40) + " lamp", 5, 201);
        Check.dueReign(x, Check.times("wait;", 40) + "king", 1, 200);
        Check.dueReign(x, Check.times("wait;", 40) + ";", 1, 200);
        Check.dueReign(new LeapCapital(), "come ann;", 2, 5);
    }

    private static void whatARealmClears() {
        LeapCapital x = Check.told(ANN + "year 1896;");
        Check.reign(x, "come ann;");
        x.come(0);
        x.lamp(5);
        x.say(3, true);
        x.mark(2, false);
        x.ride();
        x.lamp(7);
        Check.due("realm again", Check.realm(x, ANN + "year 1950;"), 0);
        int[] counts = {1, 1950, 10, 70, 0, 0, 0, 0, 1, 0, 0, 0, 0};
        for (int what = 0; what < counts.length; what++) {
            Check.due("again count(" + what + ")", x.count(what), counts[what]);
        }
        Check.due("no mark", x.mark(2, true), false);
        Check.due("nothing to undo", x.undo(), false);
        // What was told of the law is gone too: stood, as without first.
        Check.due("law", Check.realm(x, "person a plain born 1890 plea 9;person b plain born 1890 plea 1;first asks;"), 0);
        Check.due("no law", Check.realm(x, "person a plain born 1890 plea 1;person b plain born 1890 plea 9;"), 0);
        x.come(0);
        x.come(1);
        Check.dueCalls(x, "01");
        x.leave(0);
        x.waits();
        x.come(0);
        Check.dueCalls(x, "10");
        Check.due("no law once more", Check.realm(x, "person a plain born 1890 plea 1;person b plain born 1890 plea 9;"), 0);
        x.come(0);
        x.come(1);
        Check.dueCalls(x, "01");
    }
}

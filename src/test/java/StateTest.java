/** Promises 1 to 12 and 38 to 40: what there is, how it changes, how hours go by. */
public final class StateTest {
    private static final Check check = new Check();
    private static final int LEAST = Integer.MIN_VALUE;
    private static final int MOST = Integer.MAX_VALUE;

    public static void main(String[] args) {
        newObject();
        letter();
        hillThatComes();
        hillWithWrongLetter();
        hillWithWrongStatement();
        hillComesWholeOrNot();
        person();
        speaks();
        befriends();
        pours();
        cans();
        water();
        flow();
        turn();
        hours();
        hoursSpeaking();
        hoursDrawing();
        hoursGiving();
        hoursDrinking();
        image();
        on();
        count();
        check.end();
    }

    private static void newObject() {
        WellOfTheSilent x = new WellOfTheSilent();
        int[] want = {0, 0, 20, 10, 0, 0, 0, 0};
        for (int what = 0; what < want.length; what++) {
            check.due("new: count(" + what + ")", x.count(what), want[what]);
        }
        for (int what = 11; what <= 16; what++) {
            check.due("new: count(" + what + ")", x.count(what), 0);
        }
        check.refuses(x, "new: on()", x::on, -3);
    }

    private static void letter() {
        WellOfTheSilent x = new WellOfTheSilent();
        check.due("letter(0)", x.letter(0), 1);
        check.due("letter(255)", x.letter(255), 2);
        check.refuses(x, "letter(-1)", () -> x.letter(-1), -4);
        check.refuses(x, "letter(256)", () -> x.letter(256), -6);
        check.refuses(x, "letter(least)", () -> x.letter(LEAST), -4);
        check.refuses(x, "letter(most)", () -> x.letter(MOST), -6);
        for (int n = 3; n <= 96; n++) {
            check.due("letter " + n, x.letter('p'), n);
        }
        check.refuses(x, "letter of a full telling", () -> x.letter('p'), -6);
        check.refuses(x, "letter(-1) of a full telling", () -> x.letter(-1), -4);
        check.due("count(7)", x.count(7), 96);
    }

    private static void hillThatComes() {
        WellOfTheSilent x = new WellOfTheSilent();
        check.due("hill", Check.tell(x, "pp54;pw36;ps99;pm08;pt73;pl55;f05;g142;w07;l30;s2;"), 11);
        int[][] want = {{0, 5, 4, 5, 0, 0, 5}, {1, 3, 6, 42, 0, 0, 1}, {2, 9, 9, 5, 1, 0, 2},
            {3, 0, 8, 5, 0, 0, 3}, {4, 7, 3, 5, 0, 0, 4}, {5, 5, 5, 5, 0, 0, 5}};
        for (int person = 0; person < 6; person++) {
            for (int what = 0; what < 7; what++) {
                check.due("person(" + person + ", " + what + ")", x.person(person, what), want[person][what]);
            }
        }
        check.due("WATER told", x.count(2), 7);
        check.due("FLOW told", x.count(3), 30);
        check.due("letters are no more", x.count(7), 0);
        check.due("a hill on a hill", Check.tell(x, "s2;s2;h01;h59;"), 4);
        check.due("HOURS told", x.count(1), 60);
        check.due("they are still there", x.count(0), 6);
        WellOfTheSilent full = new WellOfTheSilent();
        check.due("96 letters", Check.tell(full, "w00;".repeat(24)), 24);
    }

    private static void hillWithWrongLetter() {
        fault("", -1000);
        fault("x", -1000);
        fault(";", -1000);
        fault("P", -1000);
        fault("p", -1001);
        fault("px00;", -1001);
        fault("pP00;", -1001);
        fault("pf00;", -1001);
        fault("pp", -1002);
        fault("pp;", -1002);
        fault("pp0", -1003);
        fault("pp0:;", -1003);
        fault("pp0/;", -1003);
        fault("pp00", -1004);
        fault("pp000;", -1004);
        fault("pp00;;", -1005);
        fault("pp00;p", -1006);
        fault("f", -1001);
        fault("f0;", -1002);
        fault("f00", -1003);
        fault("f000;", -1003);
        fault("g00;", -1003);
        fault("g000", -1004);
        fault("g0000;", -1004);
        fault("w0;", -1002);
        fault("w000;", -1003);
        fault("l3;", -1002);
        fault("l311;", -1003);
        fault("s;", -1001);
        fault("s00;", -1002);
        fault("h1;", -1002);
        fault("h111;", -1003);
        fault("s0;l31;h61;x", -1011);
        fault("w00;".repeat(23) + "w001", -1095);
        fault("w00;".repeat(23) + "s0;s", -1096);
        WellOfTheSilent x = new WellOfTheSilent();
        x.letter('w');
        x.letter(256 - 78);
        check.due("hill of a strange letter", x.hill(), -1001);
    }

    private static void hillWithWrongStatement() {
        fault("l31;", -2000);
        fault("l99;", -2000);
        fault("h00;", -2000);
        fault("h61;", -2000);
        fault("f00;", -2000);
        fault("g000;", -2000);
        fault("s0;", -2000);
        fault("pp00;s1;pp00;", -2005);
        fault("pp00;g100;", -2005);
        fault("pp00;f10;", -2005);
        fault("pp00;f06;", -2005);
        fault("pp00;f09;", -2005);
        fault("pp00;".repeat(7), -2030);
        fault("h60;".repeat(16) + "h40;", -2064);
        fault("w00;l31;l31;", -2004);
        check.told("h60;".repeat(16) + "h39;");
        check.told("pp00;f05;pp00;s1;s1;g199;l30;h60;");
    }

    private static void fault(String letters, int want) {
        WellOfTheSilent x = new WellOfTheSilent();
        String before = Check.seen(x);
        check.due("hill of " + letters, Check.tell(x, letters), want);
        check.holds("nothing comes of " + letters, before.equals(Check.seen(x)));
        for (int what = 11; what <= 16; what++) {
            check.due("a FAULT is not counted: " + letters, x.count(what), 0);
        }
    }

    private static void hillComesWholeOrNot() {
        WellOfTheSilent x = check.told("pp54;w50;l05;h13;");
        String before = Check.seen(x);
        check.due("hill", Check.tell(x, "pw11;g022;f01;w11;l11;s1;h10;l31;"), -2029);
        check.holds("with a FAULT nothing comes", before.equals(Check.seen(x)));
        check.due("hill again", Check.tell(x, "pw11;g022;f01;w11;l11;s1;l30;"), 7);
        check.due("PEOPLE", x.count(0), 2);
        check.due("SPOKEN", x.person(1, 4), 1);
        WellOfTheSilent late = check.told("h60;".repeat(16));
        check.due("HOUR above 999", Check.tell(late, "h39;h01;"), -2004);
        check.due("HOUR", late.count(1), 960);
    }

    private static void person() {
        int[][] hours = {{1, 1, 2, 2, 3, 3, 4, 4, 5, 5}, {4, 4, 5, 5, 6, 6, 7, 7, 8, 8},
            {0, 0, 0, 0, 0, 0, 0, 0, 0, 0}, {12, 12, 12, 12, 12, 12, 12, 12, 12, 12},
            {8, 8, 10, 10, 12, 12, 12, 12, 12, 12}, {0, 0, 0, 0, 0, 0, 0, 0, 0, 0}};
        int[] drinks = {3, 2, 4, 2, 1, 4};
        for (int kind = 0; kind < 6; kind++) {
            for (int figure = 0; figure < 10; figure++) {
                String letters = "p" + "pwsmtl".charAt(kind) + figure + "3;";
                WellOfTheSilent x = check.told(letters);
                check.due(letters + " KIND", x.person(0, 0), kind);
                check.due(letters + " FIGURE", x.person(0, 1), figure);
                check.due(letters + " CAN", x.person(0, 2), 3);
                check.due(letters + " SPEAKS", x.person(0, 7), hours[kind][figure]);
                check.due(letters + " drinks", x.person(0, 8), drinks[kind]);
            }
        }
        WellOfTheSilent x = check.told("pl45;f04;h01;");
        check.due("HAS", x.person(0, 3), 10);
        check.due("SPOKEN", x.person(0, 4), 1);
        check.due("DREW", x.person(0, 5), 1);
        check.due("FRIEND", x.person(0, 6), 4);
        check.refuses(x, "person(0, 9)", () -> x.person(0, 9), -2);
        check.refuses(x, "person(0, -1)", () -> x.person(0, -1), -2);
        check.refuses(x, "person(1, 0)", () -> x.person(1, 0), -1);
        check.refuses(x, "person(-1, 9)", () -> x.person(-1, 9), -1);
        check.refuses(x, "person(most, least)", () -> x.person(MOST, LEAST), -1);
    }

    private static void speaks() {
        WellOfTheSilent x = check.told("pp00;pm00;pp00;");
        check.due("speaks(1)", x.speaks(1), 1);
        check.due("SPOKEN", x.count(4), 2);
        check.refuses(x, "speaks(1) again", () -> x.speaks(1), -3);
        check.due("speaks(0)", x.speaks(0), 2);
        check.refuses(x, "speaks(3)", () -> x.speaks(3), -1);
        check.refuses(x, "speaks(-1)", () -> x.speaks(-1), -1);
    }

    private static void befriends() {
        WellOfTheSilent x = check.told("pp00;pp00;");
        check.due("befriends(1, 0)", x.befriends(1, 0), 1);
        check.due("befriends(1, 5)", x.befriends(1, 5), 0);
        check.due("befriends(1, 1)", x.befriends(1, 1), 5);
        check.due("FRIEND", x.person(1, 6), 1);
        check.refuses(x, "befriends(2, 0)", () -> x.befriends(2, 0), -1);
        check.refuses(x, "befriends(-1, 0)", () -> x.befriends(-1, 0), -1);
        check.refuses(x, "befriends(0, 6)", () -> x.befriends(0, 6), -1);
        check.refuses(x, "befriends(0, -1)", () -> x.befriends(0, -1), -1);
    }

    private static void pours() {
        WellOfTheSilent x = check.told("pp00;pp00;");
        check.due("pours(1, 99)", x.pours(1, 99), 5);
        check.due("pours(1, 0)", x.pours(1, 0), 99);
        check.due("HAS", x.person(1, 3), 0);
        check.due("HAS of the other", x.person(0, 3), 5);
        check.refuses(x, "pours(1, 100)", () -> x.pours(1, 100), -6);
        check.refuses(x, "pours(1, -1)", () -> x.pours(1, -1), -4);
        check.refuses(x, "pours(2, -1)", () -> x.pours(2, -1), -1);
        check.refuses(x, "pours(-1, 100)", () -> x.pours(-1, 100), -1);
    }

    private static void cans() {
        WellOfTheSilent x = check.told("pp03;pp04;");
        check.due("cans(1, 9)", x.cans(1, 9), 4);
        check.due("cans(1, 0)", x.cans(1, 0), 9);
        check.due("CAN", x.person(1, 2), 0);
        check.refuses(x, "cans(1, 10)", () -> x.cans(1, 10), -6);
        check.refuses(x, "cans(1, -1)", () -> x.cans(1, -1), -4);
        check.refuses(x, "cans(2, 10)", () -> x.cans(2, 10), -1);
        check.refuses(x, "cans(-1, -1)", () -> x.cans(-1, -1), -1);
    }

    private static void water() {
        WellOfTheSilent x = new WellOfTheSilent();
        check.due("water(99)", x.water(99), 20);
        check.due("water(0)", x.water(0), 99);
        check.due("WATER", x.count(2), 0);
        check.refuses(x, "water(100)", () -> x.water(100), -6);
        check.refuses(x, "water(-1)", () -> x.water(-1), -4);
    }

    private static void flow() {
        WellOfTheSilent x = new WellOfTheSilent();
        check.due("flow(30)", x.flow(30), 10);
        check.due("flow(0)", x.flow(0), 30);
        check.due("FLOW", x.count(3), 0);
        check.refuses(x, "flow(31)", () -> x.flow(31), -6);
        check.refuses(x, "flow(-1)", () -> x.flow(-1), -4);
    }

    private static void turn() {
        WellOfTheSilent x = check.told("pt73;pp00;");
        check.due("turn(0, 5, 9)", x.turn(0, 5, 9), 47);
        check.due("turn(0, 0, 0)", x.turn(0, 0, 0), 59);
        check.due("KIND", x.person(0, 0), 0);
        check.due("FIGURE", x.person(0, 1), 0);
        check.refuses(x, "turn(2, 6, 10)", () -> x.turn(2, 6, 10), -1);
        check.refuses(x, "turn(0, 6, 10)", () -> x.turn(0, 6, 10), -2);
        check.refuses(x, "turn(0, -1, -1)", () -> x.turn(0, -1, -1), -2);
        check.refuses(x, "turn(0, 0, -1)", () -> x.turn(0, 0, -1), -4);
        check.refuses(x, "turn(0, 0, 10)", () -> x.turn(0, 0, 10), -6);
    }

    private static void hours() {
        WellOfTheSilent x = new WellOfTheSilent();
        check.due("hours(1)", x.hours(1), 30);
        check.due("hours(11)", x.hours(11), 30);
        check.due("hours(60)", x.hours(60), 80);
        check.due("HOUR", x.count(1), 72);
        check.refuses(x, "hours(0)", () -> x.hours(0), -4);
        check.refuses(x, "hours(61)", () -> x.hours(61), -6);
        check.refuses(x, "hours(least)", () -> x.hours(LEAST), -4);
        check.refuses(x, "hours(most)", () -> x.hours(MOST), -6);
        check.due("WATER is 99 at most", x.hours(36), 99);
        for (int i = 0; i < 14; i++) {
            x.hours(60);
        }
        check.due("HOUR", x.count(1), 948);
        check.refuses(x, "HOUR above 999", () -> x.hours(52), -6);
        check.due("hours(51)", x.hours(51), 99);
        check.due("HOUR", x.count(1), 999);
        check.refuses(x, "HOUR above 999", () -> x.hours(1), -6);
    }

    private static void hoursSpeaking() {
        WellOfTheSilent x = check.told("pp20;pw20;ps20;pm20;pt20;pl20;");
        int[] want = {36, 36, 37, 37, 37, 39, 39, 39, 39, 39, 55, 55, 36, 36, 37};
        for (int n = 0; n < want.length; n++) {
            x.hours(1);
            check.due("SPOKEN behind " + (n + 1), x.count(4), want[n]);
        }
        x.speaks(3);
        x.hours(9);
        check.due("SPOKEN stays for the DAY", x.person(3, 4), 1);
        x.hours(1);
        check.due("dawn", x.person(3, 4), 0);
    }

    private static void hoursDrawing() {
        WellOfTheSilent x = check.told("pp27;ps27;pl27;pm20;g019;");
        x.hours(1);
        drewAndHas(x, 0, 1, 26);
        drewAndHas(x, 1, 0, 5);
        drewAndHas(x, 2, 1, 12);
        drewAndHas(x, 3, 0, 5);
        check.due("WATER", x.count(2), 16);
        x.hours(10);
        check.due("nobody draws twice in a DAY", x.count(2), 16);
        drewAndHas(x, 0, 1, 26);
        WellOfTheSilent enough = check.told("pm09;g020;");
        enough.hours(1);
        drewAndHas(enough, 0, 0, 20);
        enough.pours(0, 0);
        enough.hours(1);
        drewAndHas(enough, 0, 1, 9);
        WellOfTheSilent little = check.told("l00;w08;pm05;pm05;pm05;");
        little.hours(1);
        drewAndHas(little, 0, 1, 10);
        drewAndHas(little, 1, 1, 8);
        drewAndHas(little, 2, 0, 5);
        little.water(9);
        little.hours(1);
        drewAndHas(little, 2, 1, 10);
        check.due("WATER", little.count(2), 4);
        little.hours(11);
        drewAndHas(little, 0, 1, 12);
        drewAndHas(little, 1, 0, 6);
        WellOfTheSilent silenced = check.told("h01;pm05;pl05;s0;s1;");
        silenced.hours(1);
        drewAndHas(silenced, 0, 0, 5);
        drewAndHas(silenced, 1, 1, 10);
    }

    private static void drewAndHas(WellOfTheSilent x, int person, int drew, int has) {
        check.due("DREW of " + person, x.person(person, 5), drew);
        check.due("HAS of " + person, x.person(person, 3), has);
    }

    private static void hoursGiving() {
        gives("pm07;ps00;f01;", 9, 8);
        gives("pm07;ps00;f01;g111;", 9, 14);
        gives("pm07;ps00;f01;g112;", 12, 12);
        gives("pm07;ps00;f01;g113;", 12, 13);
        gives("pm07;ps00;", 12, 5);
        gives("pm07;pm00;f01;", 12, 5);
        gives("pm07;ps00;f02;", 12, 5);
        gives("pm01;ps00;f01;", 6, 5);
        gives("pl07;ps00;f01;", 9, 8);
        gives("w03;l00;pm09;ps00;f01;", 7, 6);
        gives("ps00;pm07;f10;", 8, 9);
        gives("ps07;ps00;f01;", 5, 5);
    }

    private static void gives(String letters, int has, int hasOther) {
        WellOfTheSilent x = check.told(letters);
        x.hours(1);
        check.due(letters + " HAS of 0", x.person(0, 3), has);
        check.due(letters + " HAS of 1", x.person(1, 3), hasOther);
    }

    private static void hoursDrinking() {
        WellOfTheSilent x = check.told("pp00;pw00;ps00;pm00;pt00;pl00;");
        x.hours(11);
        check.due("what all HAVE behind 11", x.count(5), 30);
        x.hours(1);
        int[] want = {2, 3, 1, 3, 4, 1};
        for (int person = 0; person < 6; person++) {
            check.due("HAS of " + person, x.person(person, 3), want[person]);
        }
        x.hours(12);
        check.due("HAS 0 at least", x.person(0, 3), 0);
        check.due("HAS 0 at least", x.person(2, 3), 0);
        WellOfTheSilent late = check.told("h11;pm07;");
        late.hours(1);
        check.due("he draws, then he drinks", late.person(0, 3), 10);
    }

    private static void image() {
        WellOfTheSilent x = check.told("pp54;h13;");
        check.changesNothing(x, "image()", x::image);
        check.due("image()", x.image(), 13);
    }

    private static void on() {
        WellOfTheSilent x = check.told("pp54;pm33;f01;g142;w50;l05;h14;s1;");
        check.refuses(x, "on()", x::on, -3);
        String then = Check.seen(x);
        x.image();
        changeAll(x);
        check.due("ROW", x.count(6), 1);
        check.due("letters", x.count(7), 1);
        check.due("on()", x.on(), 14);
        check.due("the ROW is not of the IMAGE", x.count(6), 1);
        check.due("letters are not of the IMAGE", x.count(7), 1);
        check.due("REFUSALS are not of the IMAGE", x.count(14), 1);
        x.clear();
        x.hill();
        check.holds("all is as then", then.equals(Check.seen(x)));
        changeAll(x);
        check.due("on() again", x.on(), 14);
        x.clear();
        x.hill();
        check.holds("all is as then again", then.equals(Check.seen(x)));
        x.hours(7);
        check.due("a newer image()", x.image(), 21);
        x.hours(7);
        check.due("on()", x.on(), 21);
        WellOfTheSilent nobody = new WellOfTheSilent();
        nobody.image();
        Check.tell(nobody, "pp00;w33;l11;h20;");
        check.due("on() of nobody", nobody.on(), 0);
        check.due("PEOPLE", nobody.count(0), 0);
        check.due("WATER", nobody.count(2), 20);
        check.due("FLOW", nobody.count(3), 10);
    }

    private static void changeAll(WellOfTheSilent x) {
        Check.tell(x, "pp00;");
        x.befriends(0, 3);
        x.pours(0, 77);
        x.cans(0, 1);
        x.turn(0, 5, 9);
        x.water(3);
        x.flow(3);
        x.hours(20);
        x.speaks(0);
        x.row(5);
        x.letter('p');
        x.water(-1);
    }

    private static void count() {
        WellOfTheSilent x = check.told("pp54;pm33;g142;w50;l05;h14;s1;");
        x.row(1);
        x.row(2);
        x.letter(1);
        int[] want = {2, 14, 52, 5, 2, 50, 2, 1};
        for (int what = 0; what < want.length; what++) {
            check.due("count(" + what + ")", x.count(what), want[what]);
        }
        x.lasts(6);
        x.richest(3);
        x.richest(3);
        x.mean(2);
        x.on();
        x.speaks(1);
        x.speaks(1);
        x.on();
        x.sneeze(0, -1, 2, 0, 0);
        x.flow(-1);
        x.flow(31);
        int[] refusals = {1, 3, 4, 2, 0, 1};
        for (int i = 0; i < refusals.length; i++) {
            check.due("count(" + (11 + i) + ")", x.count(11 + i), refusals[i]);
        }
        int[] others = {-1, 8, 9, 10, 17, LEAST, MOST};
        for (int what : others) {
            WellOfTheSilent y = check.told("pp54;pm33;g142;");
            check.changesNothing(y, "count(" + what + ")", () -> y.count(what));
            check.due("count(" + what + ")", y.count(what), -9);
        }
    }
}

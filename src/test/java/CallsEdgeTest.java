import java.math.BigInteger;
import java.util.Arrays;

/** The edges that promises 1 to 40 name, promise by promise, each sentence with a test of its own. */
public final class CallsEdgeTest {
    private static final String[] SEEDS = {"0", "1", "-1", "12345", "least", "most"};
    private static final Edges edges = new Edges();

    public static void main(String[] args) {
        newObject();
        letter();
        hill();
        person();
        speaks();
        befriends();
        pours();
        cans();
        water();
        flow();
        turn();
        hours();
        hasThen();
        then();
        dry();
        first();
        empty();
        flowBest();
        canBest();
        friendBest();
        hush();
        fewest();
        word();
        send();
        next();
        richest();
        quiet();
        thirst();
        lasts();
        carries();
        mutual();
        two();
        sneeze();
        mean();
        whatIs();
        row();
        judge();
        clear();
        lots();
        image();
        on();
        count();
        refusals();
        edges.end();
    }

    /** Three of PEOPLE, an IMAGE, a ROW and letters, so that a call that is refused has all to change. */
    private static void busy() {
        edges.told("pp54;pm07;f01;");
        edges.calls("image()");
        edges.tell("ps00;h14;w33;l07;");
        edges.calls("row(5)", "row(7)");
        edges.letters("w77");
    }

    private static void refusesNobody(String call) {
        busy();
        for (String number : new String[] {"-2", "3", "5", "6", "least", "most"}) {
            edges.refused(String.format(call, number), -1);
        }
        edges.anew();
        edges.refused(String.format(call, "0"), -1);
    }

    private static void refusesNumbers(String call, int least, int most) {
        busy();
        edges.refused(String.format(call, least - 1), -4);
        edges.refused(String.format(call, "least"), -4);
        edges.refused(String.format(call, most + 1), -6);
        edges.refused(String.format(call, "most"), -6);
    }

    private static void refusesWhats(String call, int most) {
        busy();
        for (String what : new String[] {"-1", "" + (most + 1), "least", "most"}) {
            edges.refused(String.format(call, what), -2);
        }
    }

    private static void row(int... numbers) {
        edges.calls("clear()");
        Arrays.stream(numbers).forEach(number -> edges.calls("row(" + number + ")"));
    }

    private static void newObject() {
        edges.says(1, "Nobody, WATER 20, FLOW 10, HOUR 0");
        int[] counts = {0, 0, 20, 10, 0, 0, 0, 0};
        for (int what = 0; what < counts.length; what++) {
            edges.asks("count(" + what + ")", counts[what]);
        }
        for (int what = 11; what <= 16; what++) {
            edges.asks("count(" + what + ")", 0);
        }
        edges.refused("on()", -3);
        edges.refused("person(0, 0)", -1);
    }

    private static void letter() {
        edges.says(2, "A letter (0 .. 255) comes: how many there are");
        edges.due("letter(0)", 1);
        edges.due("letter(255)", 2);
        edges.due("count(7)", 2);

        edges.says(2, "-4; -6 (255");
        refusesNumbers("letter(%s)", 0, 255);

        edges.says(2, "96, too");
        edges.letters("w11;".repeat(23) + "w12");
        edges.due("letter(59)", 96);
        edges.refused("letter(0)", -6);
        edges.refused("letter(59)", -6);
        edges.refused("letter(256)", -6);
        edges.refused("letter(-1)", -4);
        edges.due("hill()", 24);
        edges.due("letter(0)", 1);
    }

    private static void hill() {
        edges.says(3, "The letters become a HILL, and are no more: how many STATEMENTS");
        edges.letters("w11;");
        edges.due("hill()", 1);
        edges.due("count(7)", 0);
        edges.due("hill()", -1000);
        edges.letters("w11;".repeat(24));
        edges.due("hill()", 24);
        edges.due("count(7)", 0);

        edges.says(3, "the FAULT (nothing is counted)");
        busy();
        edges.calls("hill()");
        edges.due("count(7)", 0);
        edges.fault("", -1000);
        edges.fault("w1", -1002);
        edges.fault("pp00;l31;", -2005);
        edges.due("count(7)", 0);
        edges.letters("w".repeat(96));
        edges.due("hill()", -1001);
        edges.due("count(7)", 0);
        edges.due("letter(0)", 1);
    }

    private static void person() {
        edges.says(4, "Of one: 0 KIND .. 8 how much he drinks");
        edges.told("pl93;f05;g001;h01;");
        int[] first = {5, 9, 3, 4, 1, 1, 5, 0, 4};
        for (int what = 0; what < first.length; what++) {
            edges.asks("person(0, " + what + ")", first[what]);
        }
        edges.told("pp00;".repeat(5) + "pm00;f50;g500;h01;");
        int[] last = {3, 0, 0, 0, 0, 0, 0, 12, 2};
        for (int what = 0; what < last.length; what++) {
            edges.asks("person(5, " + what + ")", last[what]);
        }

        edges.says(4, "-1; -2");
        refusesNobody("person(%s, 0)");
        refusesNobody("person(%s, 9)");
        edges.refused("person(-1, 0)", -1);
        refusesWhats("person(2, %s)", 8);
    }

    private static void speaks() {
        edges.says(5, "He has SPOKEN: how many have");
        edges.told("pm00;".repeat(6));
        for (int person = 5; person >= 0; person--) {
            edges.due("speaks(" + person + ")", 6 - person);
            edges.due("person(" + person + ", 4)", 1);
        }
        edges.due("count(4)", 63);

        edges.says(5, "-1; -3 he has");
        refusesNobody("speaks(%s)");
        edges.refused("speaks(-1)", -1);
        busy();
        edges.calls("speaks(1)");
        edges.refused("speaks(1)", -3);
        edges.told("ps00;h01;");
        edges.refused("speaks(0)", -3);
        edges.told("pm00;s0;");
        edges.refused("speaks(0)", -3);
        edges.told("pp00;h12;");
        edges.refused("speaks(0)", -3);
        edges.calls("hours(1)");
        edges.due("speaks(0)", 1);
    }

    private static void befriends() {
        edges.says(6, "FRIEND: who was");
        edges.told("pp00;pp00;");
        int[] friends = {0, 1, 2, 5, 1};
        int was = 1;
        for (int friend : friends) {
            edges.due("befriends(1, " + friend + ")", was);
            edges.due("person(1, 6)", friend);
            was = friend;
        }

        edges.says(6, "-1 (0 .. 5 the FRIEND)");
        refusesNobody("befriends(%s, 0)");
        refusesNobody("befriends(%s, 6)");
        edges.refused("befriends(-1, 0)", -1);
        busy();
        for (String friend : new String[] {"-1", "6", "least", "most"}) {
            edges.refused("befriends(0, " + friend + ")", -1);
        }
    }

    private static void pours() {
        edges.says(7, "HAS becomes v: what it was");
        edges.told("pp00;pp00;");
        edges.due("pours(1, 0)", 5);
        edges.due("pours(1, 99)", 0);
        edges.due("pours(1, 1)", 99);
        edges.due("person(1, 3)", 1);
        edges.due("person(0, 3)", 5);

        edges.says(7, "-1; -4; -6 99");
        refusesNobody("pours(%s, 0)");
        refusesNobody("pours(%s, -1)");
        refusesNobody("pours(%s, 100)");
        edges.refused("pours(-1, 0)", -1);
        refusesNumbers("pours(0, %s)", 0, 99);
    }

    private static void cans() {
        edges.says(8, "CAN becomes v: what it was");
        edges.told("pp00;pp04;");
        edges.due("cans(1, 0)", 4);
        edges.due("cans(1, 9)", 0);
        edges.due("cans(1, 1)", 9);
        edges.due("person(1, 2)", 1);
        edges.due("person(0, 2)", 0);

        edges.says(8, "-1; -4; -6 9");
        refusesNobody("cans(%s, 0)");
        refusesNobody("cans(%s, -1)");
        refusesNobody("cans(%s, 10)");
        edges.refused("cans(-1, 0)", -1);
        refusesNumbers("cans(0, %s)", 0, 9);
    }

    private static void water() {
        edges.says(9, "WATER becomes v: what it was");
        edges.due("water(0)", 20);
        edges.due("water(99)", 0);
        edges.due("water(1)", 99);
        edges.due("count(2)", 1);

        edges.says(9, "-4; -6 99");
        refusesNumbers("water(%s)", 0, 99);
    }

    private static void flow() {
        edges.says(10, "FLOW becomes v: what it was");
        edges.due("flow(0)", 10);
        edges.due("flow(30)", 0);
        edges.due("flow(1)", 30);
        edges.due("count(3)", 1);

        edges.says(10, "-4; -6 30");
        refusesNumbers("flow(%s)", 0, 30);
    }

    private static void turn() {
        edges.says(11, "KIND, FIGURE become others: 10 times the KIND and the FIGURE it had");
        edges.told("pp00;pt73;");
        edges.due("turn(1, 5, 9)", 47);
        edges.due("turn(1, 0, 0)", 59);
        edges.due("turn(1, 0, 9)", 0);
        edges.due("turn(1, 5, 0)", 9);
        edges.due("person(1, 0)", 5);
        edges.due("person(1, 1)", 0);
        edges.due("person(0, 0)", 0);

        edges.says(11, "-1; -2; -4; -6 9");
        refusesNobody("turn(%s, 0, 0)");
        refusesNobody("turn(%s, 6, 10)");
        edges.refused("turn(-1, -1, -1)", -1);
        refusesWhats("turn(0, %s, 0)", 5);
        refusesWhats("turn(0, %s, -1)", 5);
        refusesWhats("turn(0, %s, 10)", 5);
        refusesNumbers("turn(0, 5, %s)", 0, 9);
    }

    private static void hours() {
        edges.says(12, "n HOURS (1 .. 60) go by: WATER");
        edges.due("hours(1)", 30);
        edges.due("count(1)", 1);
        edges.due("hours(60)", 80);
        edges.due("count(1)", 61);

        edges.says(12, "-4; -6 (60");
        refusesNumbers("hours(%s)", 1, 60);

        edges.says(12, "HOUR above 999");
        edges.told("h60;".repeat(15) + "h39;");
        edges.due("hours(60)", 99);
        edges.due("count(1)", 999);
        edges.told("h60;".repeat(15) + "h40;");
        edges.refused("hours(60)", -6);
        edges.due("hours(59)", 99);
        for (String n : new String[] {"1", "60", "61", "most"}) {
            edges.refused("hours(" + n + ")", -6);
        }
        edges.refused("hours(0)", -4);
        edges.refused("hours(least)", -4);
        edges.due("count(1)", 999);
    }

    private static void hasThen() {
        edges.says(13, "In mind, n HOURS on (0 .. 60): HAS of one");
        edges.told("pm00;pp05;");
        int[][] behind = {{0, 5}, {1, 10}, {11, 10}, {12, 7}, {13, 12}, {59, 18}, {60, 15}};
        for (int[] each : behind) {
            edges.asks("hasThen(1, " + each[0] + ")", each[1]);
        }
        edges.asks("hasThen(0, 60)", 0);

        edges.says(13, "-1; -4; -6 60");
        refusesNobody("hasThen(%s, 0)");
        refusesNobody("hasThen(%s, -1)");
        refusesNobody("hasThen(%s, 61)");
        edges.refused("hasThen(-1, 0)", -1);
        refusesNumbers("hasThen(0, %s)", 0, 60);
    }

    private static void then() {
        edges.says(14, "WATER (what 0), SPOKEN (1, bits), DREW (2, bits), ALL (3)");
        int[][] nobody = {{20, 0, 0, 0}, {70, 0, 0, 0}};
        int[][] six = {{20, 0, 0, 594}, {70, 63, 0, 594 - 120}};
        for (int what = 0; what < 4; what++) {
            edges.anew();
            edges.asks("then(0, " + what + ")", nobody[0][what]);
            edges.asks("then(60, " + what + ")", nobody[1][what]);
            edges.told("pl01;".repeat(6) + "g099;g199;g299;g399;g499;g599;");
            edges.asks("then(0, " + what + ")", six[0][what]);
            edges.asks("then(60, " + what + ")", six[1][what]);
        }
        edges.told("pl01;".repeat(6));
        edges.asks("then(1, 2)", 63);
        edges.asks("then(1, 3)", 36);

        edges.says(14, "-4; -6 60; -2");
        refusesNumbers("then(%s, 0)", 0, 60);
        refusesNumbers("then(%s, 4)", 0, 60);
        refusesWhats("then(0, %s)", 3);
        refusesWhats("then(60, %s)", 3);
    }

    private static void dry() {
        edges.says(15, "DRY: behind how many HOURS (0 .. 60) one HAS 0 first; -9");
        edges.told("pm00;pt00;");
        edges.asks("dry(1)", 60);
        edges.told("pt00;g000;");
        edges.asks("dry(0)", 0);
        edges.told("pt00;g006;");
        edges.asks("dry(0)", -9);
        edges.told("h11;pt00;g005;");
        edges.asks("dry(0)", 49);
        edges.told("h11;pt00;g006;");
        edges.asks("dry(0)", -9);
        edges.told("h11;pm09;g002;s0;");
        edges.asks("dry(0)", 1);
        edges.told("pm09;g000;");
        edges.asks("dry(0)", 0);

        edges.says(15, "-1");
        refusesNobody("dry(%s)");
    }

    private static void first() {
        edges.says(15, "FIRST: who does, of several the least; -9");
        edges.asks("dry(-1)", -9);
        edges.told("pp00;pp00;pp00;g104;");
        edges.asks("dry(-1)", 0);
        edges.told("pm00;pp00;pp00;g009;");
        edges.asks("dry(-1)", 1);
        edges.told("pp00;".repeat(6) + "g503;");
        edges.asks("dry(-1)", 5);
        edges.told("pp00;pp00;pp00;g100;g200;");
        edges.asks("dry(-1)", 1);
        edges.told("pt00;g006;pt00;");
        edges.asks("dry(-1)", 1);
        edges.told("pp03;pt00;");
        edges.asks("dry(-1)", 1);
        edges.told("pt00;g006;");
        edges.asks("dry(-1)", -9);
        edges.told("h11;pt00;g006;");
        edges.asks("dry(-1)", -9);
    }

    private static void empty() {
        edges.says(16, "EMPTY: behind how many HOURS (0 .. 60) WATER is 0 first; -9");
        edges.asks("empty()", -9);
        edges.told("w00;");
        edges.asks("empty()", 0);
        edges.told("w00;l00;");
        edges.asks("empty()", 0);
        int[][] fromDawn = {{1, 1}, {2, 13}, {5, 49}, {6, -9}};
        for (int[] each : fromDawn) {
            edges.told("l00;w0" + each[0] + ";pm01;");
            edges.asks("empty()", each[1]);
        }
        int[][] behindDawn = {{1, 1}, {2, 12}, {5, 48}, {6, 60}, {7, -9}};
        for (int[] each : behindDawn) {
            edges.told("h01;l00;w0" + each[0] + ";pm01;");
            edges.asks("empty()", each[1]);
        }
    }

    private static void flowBest() {
        edges.says(17, "FLOW BEST: the least FLOW (0 .. 30) with which nobody is DRY behind any of 0 .. n HOURS (0 .. 48); -9");
        edges.asks("flowBest(0)", 0);
        edges.asks("flowBest(48)", 0);
        edges.told("pt00;g004;");
        edges.asks("flowBest(0)", 0);
        edges.asks("flowBest(47)", 0);
        edges.asks("flowBest(48)", -9);
        edges.told("pt00;");
        edges.asks("flowBest(48)", 0);
        edges.told("pm09;g000;");
        edges.asks("flowBest(0)", -9);
        edges.asks("flowBest(48)", -9);
        edges.told("w00;pp09;pp09;pp09;pp09;g301;");
        edges.asks("flowBest(11)", 0);
        edges.asks("flowBest(12)", 30);
        edges.calls("flow(0)");
        edges.asks("flowBest(12)", 30);
        edges.told("w00;pp09;pp09;pp09;pl09;g301;");
        edges.asks("flowBest(12)", -9);
        edges.told("w00;l30;pm09;g002;");
        edges.asks("flowBest(11)", 0);
        edges.asks("flowBest(12)", 1);
        edges.asks("flowBest(13)", 1);

        edges.says(17, "-4; -6 48");
        refusesNumbers("flowBest(%s)", 0, 48);
    }

    private static void canBest() {
        edges.says(18, "CAN BEST: the least CAN of one with which he is not; -9");
        edges.told("w99;l30;pt09;g004;");
        edges.asks("canBest(0, 0)", 0);
        edges.asks("canBest(0, 47)", 0);
        edges.asks("canBest(0, 48)", 1);
        edges.told("pt09;g000;");
        edges.asks("canBest(0, 0)", -9);
        edges.told("l00;w09;pp00;pp09;g004;");
        edges.asks("canBest(0, 47)", 6);
        edges.asks("canBest(0, 48)", 9);
        edges.told("l00;w10;pp00;pp09;g003;");
        edges.asks("canBest(0, 48)", -9);
        edges.told("w00;l00;pp09;");
        edges.asks("canBest(0, 24)", -9);
        edges.told("pm01;pp00;g100;");
        edges.asks("canBest(0, 48)", 1);
        edges.asks("canBest(1, 0)", -9);

        edges.says(18, "-1; -4; -6 48");
        refusesNobody("canBest(%s, 0)");
        refusesNobody("canBest(%s, -1)");
        refusesNobody("canBest(%s, 49)");
        edges.refused("canBest(-1, 0)", -1);
        refusesNumbers("canBest(0, %s)", 0, 48);
    }

    private static void friendBest() {
        edges.says(19, "FRIEND BEST: the FRIEND (another one) .. behind n HOURS (0 .. 48)");
        edges.told("pp08;");
        edges.asks("friendBest(0, 48)", -9);
        edges.told("pp08;ps00;");
        edges.asks("friendBest(0, 0)", -9);
        edges.asks("friendBest(0, 1)", 1);
        edges.asks("friendBest(0, 48)", 1);
        edges.asks("friendBest(1, 48)", -9);
        edges.told("ps00;pp08;");
        edges.asks("friendBest(1, 48)", 0);
        edges.told("pp08;" + "pp00;".repeat(4) + "ps00;g109;g209;g309;g409;");
        edges.asks("friendBest(0, 1)", 5);

        edges.says(19, "more than as it is, of several the least; -9");
        edges.told("pp08;ps00;f01;");
        edges.asks("friendBest(0, 48)", -9);
        edges.told("pp08;ps00;f05;");
        edges.asks("friendBest(0, 48)", 1);
        edges.told("pp08;ps00;pm00;g200;");
        edges.asks("friendBest(0, 48)", -9);
        edges.told("pp08;pp09;pp09;ps09;f03;g312;");
        edges.asks("friendBest(0, 1)", 1);
        // With no FRIEND but one who is not there he would keep it all: but that is no other one.
        edges.told("pm08;ps00;f01;g000;g107;");
        edges.asks("friendBest(0, 1)", -9);

        edges.says(19, "-1; -4; -6 48");
        refusesNobody("friendBest(%s, 0)");
        refusesNobody("friendBest(%s, -1)");
        refusesNobody("friendBest(%s, 49)");
        edges.refused("friendBest(-1, 0)", -1);
        refusesNumbers("friendBest(0, %s)", 0, 48);
    }

    private static void hush() {
        edges.says(20, "HUSH: the one who, never SPEAKING from now .. makes ALL most behind n HOURS (0 .. 48)");
        edges.asks("hush(48)", -9);
        edges.told("ps09;");
        edges.asks("hush(0)", -9);
        edges.asks("hush(1)", 0);
        edges.asks("hush(48)", 0);
        edges.told("pm09;".repeat(5) + "ps09;l30;");
        edges.asks("hush(48)", -9);
        edges.told("pm04;".repeat(5) + "ps04;l30;");
        edges.asks("hush(48)", 5);
        edges.told("ps09;h01;");
        edges.asks("hush(11)", -9);
        edges.asks("hush(12)", 0);

        edges.says(20, "a MUTE, but drinks as he does");
        edges.told("ps00;");
        edges.asks("hush(12)", -9);
        edges.told("ps03;g000;");
        edges.asks("hush(12)", -9);

        edges.says(20, "more than else, of several the least; -9");
        edges.told("ps05;ps05;");
        edges.asks("hush(1)", 0);
        edges.told("ps04;ps05;");
        edges.asks("hush(1)", 1);
        edges.told("ps05;ps04;");
        edges.asks("hush(1)", 0);
        edges.told("pm05;pl05;");
        edges.asks("hush(48)", -9);

        edges.says(20, "-4; -6 48");
        refusesNumbers("hush(%s)", 0, 48);
    }

    private static void fewest() {
        edges.says(21, "FEWEST: the fewest of PEOPLE .. that nobody is DRY behind any of 0 .. n HOURS (0 .. 24)");
        edges.asks("fewest(0)", 0);
        edges.asks("fewest(24)", 0);
        edges.told("ps09;");
        edges.asks("fewest(0)", 0);
        edges.asks("fewest(23)", 0);
        edges.asks("fewest(24)", 1);
        edges.told("w99;l30;" + "ps09;".repeat(6));
        edges.asks("fewest(24)", 63);
        edges.told("w99;l30;" + "pm09;".repeat(5) + "ps09;");
        edges.asks("fewest(24)", 32);
        edges.told("ps00;");
        edges.asks("fewest(24)", -9);
        edges.told("pm09;g000;");
        edges.asks("fewest(0)", -9);
        edges.told("ps09;g004;");
        edges.asks("fewest(11)", 0);
        edges.asks("fewest(12)", 1);

        edges.says(21, "bits, of several the least; -9");
        edges.told("ps09;ps09;f01;f10;");
        edges.asks("fewest(24)", 1);
        edges.told("ps00;ps00;ps09;g099;g199;");
        edges.asks("fewest(24)", 4);

        edges.says(21, "-4; -6 24");
        refusesNumbers("fewest(%s)", 0, 24);
    }

    private static void word() {
        edges.says(22, "WORD: the one who, having SPOKEN now, makes ALL least behind n HOURS (1 .. 24)");
        edges.asks("word(1)", -9);
        edges.asks("word(24)", -9);
        edges.told("h01;pp43;pp45;");
        edges.asks("word(1)", 1);
        edges.asks("word(24)", 1);
        edges.told("pp49;");
        edges.asks("word(1)", -9);
        edges.asks("word(24)", -9);
        edges.told("h01;" + "pp43;".repeat(5) + "pp45;");
        edges.asks("word(1)", 5);

        edges.says(22, "less than else, of several the least; -9");
        edges.told("h01;pp45;pp45;");
        edges.asks("word(1)", 0);
        edges.told("h01;pp45;pp43;s0;");
        edges.asks("word(1)", 1);
        edges.told("h01;pp45;s0;");
        edges.asks("word(24)", -9);
        edges.told("h01;pl49;");
        edges.asks("word(24)", -9);

        edges.says(22, "-4 below 1; -6 24");
        refusesNumbers("word(%s)", 1, 24);
    }

    private static void send() {
        edges.says(23, "SEND: the one .. makes most of the others not DRY behind n HOURS (0 .. 24), of several the least; -9; how many");
        sends("", 0, -9, -9);
        sends("", 24, -9, -9);
        sends("pm09;", 0, 0, 0);
        sends("pm09;", 24, 0, 0);
        sends("pp00;pp00;g000;g100;", 0, 0, 0);
        sends("pp00;pp00;g000;", 0, 0, 1);
        sends("pp00;pp00;g100;", 0, 1, 1);
        sends("pp00;pp00;", 24, 0, 0);
        sends("pp00;pp00;g107;", 24, 0, 1);
        sends("pp00;pp00;g007;", 24, 1, 1);
        sends("pp00;pp00;g007;", 23, 0, 1);
        sends("pp00;".repeat(5) + "pp00;g500;", 0, 5, 5);
        sends("l00;w00;ps00;pm09;g009;g102;", 12, 0, 1);

        edges.says(23, "given away now (HAS 0)");
        sends("l00;w04;pm04;ps00;f01;g000;g104;", 12, 0, 0);
        sends("h11;l00;w04;pm04;ps00;f01;s1;g000;g103;", 1, 0, 1);

        // The first five draw 96 in three DAYS if 0 sends, the last one 3, or 2, ahead of the last dawn:
        // of 99 nothing is left for him then, or 1, and with 100, or 98, it would be otherwise.
        edges.says(23, "to THE WELL (99 at most)");
        sends("h01;l00;w99;pl07;pl07;pl06;pl06;pl06;pp93;g099;s5;g500;", 24, 1, 5);
        sends("h01;l00;w99;pl07;pl07;pl06;pl06;pl06;pp92;g099;s5;g500;", 24, 0, 5);

        edges.says(23, "-4; -6 24; -2");
        refusesNumbers("send(%s, 0)", 0, 24);
        refusesNumbers("send(%s, 2)", 0, 24);
        refusesWhats("send(0, %s)", 1);
        refusesWhats("send(24, %s)", 1);
    }

    private static void sends(String letters, int n, int who, int many) {
        edges.anew();
        if (!letters.isEmpty()) {
            edges.tell(letters);
        }
        edges.asks("send(" + n + ", 0)", who);
        edges.asks("send(" + n + ", 1)", many);
    }

    private static void next() {
        edges.says(24, "NEXT: who draws in the next HOUR, bits");
        edges.asks("next()", 0);
        String[] hills = {"pl01;".repeat(6), "pl01;h11;", "pl01;h12;", "pm00;", "w00;l00;pm05;", "w05;l00;pm05;pm05;",
            "w06;l00;pm05;pm05;pm05;", "w00;l01;pm05;pm05;", "pm05;g019;", "pm05;g020;", "h02;pp25;pp45;", "h01;pm05;s0;",
            "h12;pm05;s0;", "ps05;", "h01;ps05;"};
        int[] want = {63, 0, 1, 0, 0, 1, 3, 1, 1, 0, 2, 0, 1, 0, 1};
        for (int i = 0; i < hills.length; i++) {
            edges.told(hills[i]);
            edges.asks("next()", want[i]);
        }
    }

    private static void richest() {
        edges.says(25, "RICHEST (what 0), POOREST (1), LONGEST (2); of several the least; -9");
        ranks("", -9, -9, -9);
        ranks("pp00;", 0, 0, 0);
        ranks("pp00;".repeat(6), 0, 0, 0);
        ranks("pp00;".repeat(5) + "pm00;g599;", 5, 0, 5);
        ranks("pp00;".repeat(5) + "ps00;g500;", 0, 5, 0);
        ranks("ps00;pt40;pm00;g000;g100;g200;", 0, 0, 1);
        ranks("pp00;pp10;pp20;pp30;g199;g299;g300;g000;", 1, 0, 2);

        edges.says(25, "-2");
        refusesWhats("richest(%s)", 2);
        edges.anew();
        edges.refused("richest(3)", -2);
    }

    private static void ranks(String letters, int richest, int poorest, int longest) {
        edges.anew();
        if (!letters.isEmpty()) {
            edges.tell(letters);
        }
        edges.asks("richest(0)", richest);
        edges.asks("richest(1)", poorest);
        edges.asks("richest(2)", longest);
    }

    private static void quiet() {
        edges.says(26, "QUIET: how many are silent in a told HOUR of a DAY (0 .. 11: those who SPEAK later)");
        edges.asks("quiet(0)", 0);
        edges.asks("quiet(11)", 0);
        int[] kinds = {4, 4, 3, 3, 3, 2, 2, 2, 2, 2, 1, 1};
        for (int hour = 0; hour <= 11; hour++) {
            edges.told("pp20;pw20;ps20;pm20;pt20;pl20;");
            edges.asks("quiet(" + hour + ")", kinds[hour]);
            edges.told("pm00;".repeat(6));
            edges.asks("quiet(" + hour + ")", 6);
            edges.told("ps00;".repeat(6));
            edges.asks("quiet(" + hour + ")", 0);
        }
        edges.told("h05;pm00;s0;");
        edges.asks("quiet(5)", 1);

        edges.says(26, "-4; -6 11");
        refusesNumbers("quiet(%s)", 0, 11);
    }

    private static void thirst() {
        edges.says(27, "THIRST: how much all drink in a DAY");
        edges.asks("thirst()", 0);
        edges.told("pt00;g000;");
        edges.asks("thirst()", 1);
        edges.told("ps00;".repeat(6));
        edges.asks("thirst()", 24);
    }

    private static void lasts() {
        // No KIND drinks nothing, so 99 comes of a PRIEST who HAS 99 alone.
        edges.says(28, "LASTS: how many whole DAYS what one HAS lasts, if he draws nothing (99: he drinks nothing)");
        int[][] persons = {{0, 0}, {1, 0}, {2, 0}, {3, 1}, {5, 1}, {6, 2}, {98, 32}, {99, 33}};
        for (int[] each : persons) {
            edges.told(String.format("pm00;pp09;g1%02d;", each[0]));
            edges.asks("lasts(1)", each[1]);
        }
        edges.told("pt00;g099;");
        edges.asks("lasts(0)", 99);
        edges.told("pt00;g000;");
        edges.asks("lasts(0)", 0);

        edges.says(28, "-1");
        refusesNobody("lasts(%s)");
        edges.refused("lasts(-1)", -1);
    }

    private static void carries() {
        edges.says(29, "CARRIES: PEOPLE (bits) who are the FRIEND of another one");
        friendsOf("", 0, 0);
        friendsOf("pp00;", 0, 0);
        friendsOf("pp00;f05;", 0, 0);
        friendsOf("pp00;f01;", 0, 0);
        friendsOf("pp00;f01;pp00;", 2, 0);
        friendsOf("pp00;".repeat(6) + "f01;f12;f23;f34;f45;f50;", 63, 0);

        edges.says(29, "-2");
        refusesWhats("carries(%s)", 1);
    }

    private static void mutual() {
        edges.says(29, "MUTUAL: how many twos are each the other's");
        friendsOf("pp00;".repeat(6) + "f05;f14;f23;f32;f41;f50;", 63, 3);
        friendsOf("pp00;pp00;f01;f10;", 3, 1);
        friendsOf("pp00;pp00;f01;", 2, 0);
        friendsOf("pp00;pp00;", 0, 0);
    }

    private static void friendsOf(String letters, int carry, int twos) {
        edges.anew();
        if (!letters.isEmpty()) {
            edges.tell(letters);
        }
        edges.asks("carries(0)", carry);
        edges.asks("carries(1)", twos);
    }

    private static void two() {
        edges.says(30, "each wants HAS most behind n HOURS (0 .. 24), 2 more for speaking");
        edges.told("h01;pm09;pm09;");
        edges.asks("two(0, 1, 0)", 11);
        edges.asks("two(0, 1, 1)", 0);
        edges.asks("two(0, 1, 24)", 0);
        edges.told("h01;pm01;pm09;");
        edges.asks("two(0, 1, 1)", 10);
        edges.asks("two(1, 0, 1)", 1);
        edges.told("pm09;pm09;");
        edges.asks("two(0, 1, 24)", 11);
        edges.told("h01;" + "pm09;".repeat(6));
        edges.asks("two(5, 0, 0)", 11);
        // Only if the other speaks does the first come to draw, and gives him half of it.
        edges.told("h01;w04;pm09;pm09;f10;g105;");
        edges.asks("two(1, 0, 1)", 1);

        edges.says(30, "the first pair by which neither has more by another one alone; -9");
        edges.told("h01;pm02;pm02;");
        edges.asks("two(0, 1, 1)", 0);
        edges.told("h01;w05;pt59;pw65;pp67;f01;g005;f12;g104;f20;g211;");
        edges.asks("two(0, 1, 1)", -9);
        edges.asks("two(1, 0, 1)", -9);

        edges.says(30, "-1 either (one twice, too); -4; -6 24");
        refusesNobody("two(%s, 1, 0)");
        refusesNobody("two(1, %s, 0)");
        refusesNobody("two(%s, 1, -1)");
        refusesNobody("two(1, %s, 25)");
        busy();
        edges.refused("two(-1, 0, 0)", -1);
        edges.refused("two(0, -1, 0)", -1);
        for (int person = 0; person < 3; person++) {
            edges.refused("two(" + person + ", " + person + ", 0)", -1);
            edges.refused("two(" + person + ", " + person + ", -1)", -1);
            edges.refused("two(" + person + ", " + person + ", 25)", -1);
        }
        refusesNumbers("two(0, 1, %s)", 0, 24);
    }

    private static void sneeze() {
        edges.says(31, "SNEEZE: in each of n HOURS (0 .. 7), with odds 1 in t (2 .. 20) .. he HAS v (0 .. 99) or more");
        odds("pm09;", "0, 2, 5", 1, 1);
        odds("pm09;", "0, 20, 6", 0, 1);
        odds("pm09;g000;", "0, 2, 0", 1, 1);
        odds("pm09;g000;", "0, 2, 1", 0, 1);
        odds("pm09;g099;", "7, 20, 99", 1, 1);
        odds("pm09;g098;", "7, 20, 99", 0, 1);
        odds("pm09;", "1, 2, 14", 1, 2);
        odds("pm09;", "1, 20, 14", 19, 20);
        odds("pm09;", "7, 20, 14", 19, 20);
        odds("pm09;", "7, 2, 15", 0, 1);
        odds("pm09;", "7, 2, 0", 1, 1);

        edges.says(31, "as all do, ahead of drawing (at dawn behind what dawn takes back)");
        odds("h11;pm09;", "1, 2, 12", 1, 2);
        odds("h11;pm09;", "2, 2, 21", 1, 4);
        odds("h11;pm09;", "2, 20, 12", 399, 400);
        odds("h11;pm09;", "7, 20, 13", 361, 400);
        odds("h06;pm09;", "7, 20, 21", 361, 400);
        odds("h06;pm09;s0;", "7, 20, 12", 19, 20);
        odds("pl09;", "7, 20, 14", 1, 1);
        odds("ps09;", "7, 20, 6", 0, 1);

        edges.says(31, "-1; -4 (n, v; t below 2); -6 (7; 20; 99); -2");
        refusesNobody("sneeze(%s, 0, 2, 0, 0)");
        refusesNobody("sneeze(%s, -1, 1, -1, 2)");
        edges.refused("sneeze(-1, 8, 21, 100, 2)", -1);
        refusesNumbers("sneeze(0, %s, 2, 0, 0)", 0, 7);
        refusesNumbers("sneeze(0, 7, %s, 99, 0)", 2, 20);
        refusesNumbers("sneeze(0, 7, 20, %s, 1)", 0, 99);
        refusesNumbers("sneeze(0, 0, 2, %s, 2)", 0, 99);
        busy();
        edges.refused("sneeze(0, -1, 21, 100, 2)", -4);
        edges.refused("sneeze(0, 8, 1, 100, 2)", -4);
        edges.refused("sneeze(0, 8, 21, -1, 2)", -4);
        edges.refused("sneeze(0, 8, 2, 0, 2)", -6);
        edges.refused("sneeze(0, 0, 21, 0, 2)", -6);
        refusesWhats("sneeze(0, 7, 20, 99, %s)", 1);
    }

    private static void odds(String letters, String asked, long above, long below) {
        edges.told(letters);
        edges.asks("sneeze(0, " + asked + ", 0)", above);
        edges.asks("sneeze(0, " + asked + ", 1)", below);
    }

    private static void mean() {
        edges.says(32, "MEAN: of HAS: a fraction (0 by 1 of nobody)");
        means("", 0, 1);
        means("pp00;g000;", 0, 1);
        means("pp00;g099;", 99, 1);
        means("pp00;pp00;g000;g100;", 0, 1);
        means("pp00;".repeat(6) + "g001;g100;g200;g300;g400;g500;", 1, 6);
        means("pp00;".repeat(6) + "g099;g199;g299;g399;g499;g599;", 99, 1);
        means("pp00;".repeat(6) + "g099;g199;g299;g399;g499;g598;", 593, 6);
        means("pp00;".repeat(4) + "g009;g103;", 11, 2);

        edges.says(32, "-2");
        refusesWhats("mean(%s)", 1);
        edges.anew();
        edges.refused("mean(2)", -2);
    }

    private static void means(String letters, long above, long below) {
        edges.anew();
        if (!letters.isEmpty()) {
            edges.tell(letters);
        }
        edges.asks("mean(0)", above);
        edges.asks("mean(1)", below);
    }

    private static void whatIs() {
        edges.says(33, "WHAT HE IS by the ROW (it stays): KINDS (what 0, bits), FIGURES (1)");
        isBy("pm05;", 63, 1023);
        isBy("pm05;", 63, 1023, 5);
        isBy("pm05;", 0, 0, 4);
        isBy("pm05;g099;", 63, 1023, 99);
        isBy("pm05;g000;", 63, 1023, 0);
        isBy("pm05;", 10, 1023, 5, 10, 10, 10, 10, 10, 10, 10, 10, 10, 10, 10, 8, 13, 13, 13);
        isBy("pm05;", 0, 0, 5, 10, 10, 10, 10, 10, 10, 10, 10, 10, 10, 10, 8, 13, 13, 14);
        isBy("h05;pp05;", 0, 768, 5, 5, 5);
        isBy("h01;pp05;", 1, 3, 5, 5);
        edges.told("pm05;");
        edges.calls("row(5)");
        edges.due("whatIs(0, 0)", 63);
        edges.due("whatIs(0, 1)", 1023);
        edges.due("count(6)", 1);

        edges.says(33, "-1; -2");
        refusesNobody("whatIs(%s, 0)");
        refusesNobody("whatIs(%s, 2)");
        edges.refused("whatIs(-1, 0)", -1);
        refusesWhats("whatIs(0, %s)", 1);
    }

    private static void isBy(String letters, int kinds, int figures, int... numbers) {
        edges.told(letters);
        row(numbers);
        edges.asks("whatIs(0, 0)", kinds);
        edges.asks("whatIs(0, 1)", figures);
    }

    private static void row() {
        edges.says(34, "A number more of the ROW (0 .. 99): how many");
        edges.due("row(0)", 1);
        edges.due("row(99)", 2);
        edges.due("count(6)", 2);

        edges.says(34, "-4; -6 (99");
        refusesNumbers("row(%s)", 0, 99);

        edges.says(34, "16, too");
        row(new int[15]);
        edges.due("row(0)", 16);
        edges.refused("row(0)", -6);
        edges.refused("row(100)", -6);
        edges.refused("row(-1)", -4);
        edges.due("count(6)", 16);
        edges.due("clear()", 16);
        edges.due("row(0)", 1);
    }

    private static void judge() {
        edges.says(35, "JUDGED: CANS of PEOPLE 0, 1, ..: the first that is not so (nobody there, too); -9");
        judged("", -9);
        judged("", 0, 0);
        judged("pp00;", -9);
        judged("pp00;", -9, 0);
        judged("pp09;", -9, 9);
        judged("pp09;", 0, 99);
        judged("pp05;pp03;", -9, 5);
        judged("pp05;pp03;", -9, 5, 3);
        judged("pp05;pp03;", 1, 5, 4);
        judged("pp05;pp03;", 0, 4, 4);
        judged("pp05;pp03;", 2, 5, 3, 0);
        judged("pp00;".repeat(6), -9, new int[6]);
        judged("pp00;".repeat(6), 6, new int[7]);
        judged("pp00;".repeat(6), 6, new int[16]);
        judged("pp00;".repeat(5) + "pp01;", 5, new int[6]);

        edges.says(35, "-9 (the ROW has none then)");
        edges.told("pp05;");
        row(5);
        edges.due("judge()", -9);
        edges.due("count(6)", 0);
        row(new int[16]);
        edges.due("judge()", 0);
        edges.due("count(6)", 0);
        edges.due("judge()", -9);
        edges.due("row(0)", 1);
    }

    private static void judged(String letters, int want, int... numbers) {
        edges.anew();
        if (!letters.isEmpty()) {
            edges.tell(letters);
        }
        row(numbers);
        edges.due("judge()", want);
    }

    private static void clear() {
        edges.says(36, "The ROW has none then: how many it had");
        edges.due("clear()", 0);
        row(99);
        edges.due("clear()", 1);
        edges.due("count(6)", 0);
        row(new int[16]);
        edges.due("clear()", 16);
        edges.due("count(6)", 0);
        edges.due("clear()", 0);
    }

    private static void lots() {
        edges.says(37, "LOTS with a seed z: n years (1 .. 20), each from now; z times 1664525 and 1013904223 (an int)");
        for (String seed : SEEDS) {
            for (int years : new int[] {1, 2, 20}) {
                lotsAsYearsGoneBy("w00;pm09;ps09;pp40;", years, seed);
                lotsAsYearsGoneBy("h05;l00;w00;pm09;pm09;pl97;g200;", years, seed);
            }
        }
        edges.anew();
        edges.asks("lots(20, most, 0)", 0);
        edges.asks("lots(20, least, 1)", 0);
        edges.told("ps00;".repeat(6));
        edges.asks("lots(1, 0, 1)", 6);
        edges.asks("lots(20, 0, 1)", 120);
        edges.told("h60;".repeat(16) + "h39;");
        edges.tell("ps00;");
        edges.asks("lots(20, 0, 1)", 20);

        edges.says(37, "-4; -6 20; -2");
        refusesNumbers("lots(%s, 0, 0)", 1, 20);
        refusesNumbers("lots(%s, most, 2)", 1, 20);
        refusesWhats("lots(1, least, %s)", 1);
        refusesWhats("lots(20, 0, %s)", 1);
    }

    /** What LOTS thinks of is let go by on other objects, with the DRAWS worked out in whole numbers. */
    private static void lotsAsYearsGoneBy(String letters, int years, String seed) {
        BigInteger z = BigInteger.valueOf(seed.equals("least") ? Integer.MIN_VALUE
            : seed.equals("most") ? Integer.MAX_VALUE : Integer.parseInt(seed));
        int all = 0;
        int dry = 0;
        for (int year = 0; year < years; year++) {
            WellOfTheSilent x = new WellOfTheSilent();
            Check.tell(x, letters);
            for (int i = 0; i < 4; i++) {
                z = z.multiply(BigInteger.valueOf(1664525)).add(BigInteger.valueOf(1013904223)).mod(BigInteger.TWO.pow(32));
                x.flow(z.mod(BigInteger.TWO.pow(31)).divide(BigInteger.valueOf(256)).mod(BigInteger.valueOf(31)).intValue());
                x.hours(12);
            }
            all += x.count(5);
            for (int person = 0; person < x.count(0); person++) {
                dry += x.person(person, 3) == 0 ? 1 : 0;
            }
        }
        edges.told(letters);
        edges.asks("lots(" + years + ", " + seed + ", 0)", all);
        edges.asks("lots(" + years + ", " + seed + ", 1)", dry);
    }

    private static void image() {
        edges.says(38, "THE IMAGE is taken: HOUR");
        edges.due("image()", 0);
        edges.calls("hours(60)");
        edges.due("image()", 60);
        edges.due("on()", 60);
        edges.told("h60;".repeat(16) + "h39;");
        edges.due("image()", 999);
        edges.due("on()", 999);

        edges.says(38, "all that there is, but it, the ROW, letters, REFUSALS");
        busy();
        edges.due("image()", 14);
        edges.calls("row(9)", "letter(59)", "on()");
        edges.due("count(6)", 3);
        edges.due("count(7)", 4);
        edges.due("count(11)", 0);
        edges.calls("lasts(6)", "on()");
        edges.due("count(11)", 1);
    }

    private static void on() {
        edges.says(39, "ON from it: HOUR .. all is as then");
        edges.calls("image()");
        edges.tell("pp00;".repeat(6) + "h20;w01;l02;");
        edges.due("on()", 0);
        edges.due("count(0)", 0);
        edges.due("count(2)", 20);
        edges.due("count(3)", 10);
        edges.refused("person(0, 0)", -1);
        edges.told("pm09;".repeat(6) + "g099;s5;h12;s4;");
        edges.calls("image()", "hours(60)", "pours(0, 0)", "cans(0, 0)", "turn(0, 0, 0)", "befriends(0, 5)");
        edges.due("on()", 12);
        edges.due("person(0, 0)", 3);
        edges.due("person(0, 2)", 9);
        edges.due("person(0, 3)", 97);
        edges.due("person(0, 6)", 0);
        edges.due("count(4)", 16);
        edges.due("person(1, 5)", 1);
        edges.due("person(4, 5)", 1);
        edges.due("person(5, 5)", 0);
        edges.calls("hours(60)");
        edges.due("on()", 12);
        edges.due("on()", 12);
        edges.due("person(0, 3)", 97);

        edges.says(39, "-3 there is none");
        edges.refused("on()", -3);
        edges.tell("pp00;h12;");
        edges.refused("on()", -3);
        edges.calls("image()");
        edges.due("on()", 12);
    }

    private static void count() {
        edges.says(40, "0 PEOPLE, 1 HOUR, 2 WATER, 3 FLOW, 4 SPOKEN (bits), 5 what all HAVE, 6 in the ROW, 7 letters");
        edges.told("pm00;".repeat(6) + "g099;g199;g299;g399;g499;g599;");
        edges.tell("s0;s1;s2;s3;s4;s5;w99;l30;");
        row(new int[16]);
        edges.letters("p".repeat(96));
        int[] full = {6, 0, 99, 30, 63, 594, 16, 96};
        for (int what = 0; what < full.length; what++) {
            edges.due("count(" + what + ")", full[what]);
        }

        edges.says(40, "11 .. 16 REFUSALS -1 .. -6");
        edges.calls("lasts(0)", "mean(2)", "mean(2)", "on()", "on()", "on()", "water(-1)", "sneeze(0, 0, 0, 0, 0)",
            "flow(31)", "flow(31)", "flow(31)", "flow(31)");
        int[] counts = {2, 2, 3, 1, 0, 4};
        for (int i = 0; i < counts.length; i++) {
            edges.asks("count(" + (11 + i) + ")", counts[i]);
        }

        edges.says(40, "-9 for another what");
        busy();
        for (String what : new String[] {"-1", "8", "9", "10", "17", "-11", "least", "most"}) {
            edges.asks("count(" + what + ")", -9);
        }
    }

    private static void refusals() {
        edges.says(0, "An object is used for at most 512 calls: REFUSALS are counted to the last");
        for (int i = 0; i < 511; i++) {
            edges.calls("water(-1)");
        }
        edges.due("count(14)", 511);

        edges.says(0, "Of longs they are 4000000000000000000 less them (-1 as 4000000000000000001)");
        edges.due("sneeze(0, 0, 2, 0, 0)", 4000000000000000001L);
        edges.due("mean(2)", 4000000000000000002L);
        edges.tell("pp00;");
        edges.due("sneeze(0, -1, 2, 0, 0)", 4000000000000000004L);
        edges.due("sneeze(0, 8, 2, 0, 0)", 4000000000000000006L);
        edges.due("sneeze(0, 0, 2, 0, 2)", 4000000000000000002L);
    }
}

/** The edges that the rules ahead of the promises name: terms, HILLS, KINDS, AN HOUR, thought. */
public final class RulesEdgeTest {
    private static final String DIGITS = "0123456789";
    private static final String[] STATEMENTS = {"pp00;", "f00;", "g000;", "w00;", "l00;", "s0;", "h01;"};
    private static final Edges edges = new Edges();

    public static void main(String[] args) {
        theDay();
        theWell();
        people();
        friends();
        theHour();
        lettersOfAHill();
        wrongLetters();
        somethingLacks();
        numbersOutOfRange();
        nobodySoFar();
        hourAboveTheLast();
        noRoomForMore();
        whichFaultIsFirst();
        allOrNothing();
        whenKindsSpeak();
        howMuchKindsDrink();
        aLiar();
        dawn();
        speakingAheadOfDrawing();
        whoDraws();
        howMuchIsDrawn();
        drewOrNot();
        giving();
        theFriendsTurn();
        drinking();
        thoughtBeyondTheLastHour();
        edges.end();
    }

    private static void theDay() {
        edges.says(0, "HOUR as they go by, modulo 12; 0 is dawn");
        edges.told("w00;l01;");
        edges.due("hours(1)", 1);
        edges.due("hours(11)", 1);
        edges.due("hours(1)", 2);
        edges.due("hours(11)", 2);
        edges.due("hours(1)", 3);
        edges.told("h60;".repeat(16) + "h36;");
        edges.calls("water(0)", "flow(1)");
        edges.due("count(1)", 996);
        edges.due("hours(1)", 1);
        edges.due("hours(2)", 1);
        edges.told("h11;ps00;");
        edges.due("hours(1)", 30);
        edges.due("count(4)", 0);
        edges.due("hours(1)", 40);
        edges.due("count(4)", 1);
    }

    private static void theWell() {
        edges.says(0, "THE WELL holds WATER (0 .. 99; 20 at first) and gets FLOW more (0 .. 30; 10 at first)");
        edges.due("count(2)", 20);
        edges.due("count(3)", 10);
        edges.told("w00;l00;");
        edges.due("count(2)", 0);
        edges.due("count(3)", 0);
        edges.due("hours(1)", 0);
        edges.told("w99;l30;");
        edges.due("count(2)", 99);
        edges.due("count(3)", 30);

        edges.says(0, "at each dawn (99 at most)");
        int[][] cases = {{88, 10, 98}, {89, 10, 99}, {90, 10, 99}, {99, 10, 99}, {99, 0, 99}, {68, 30, 98}, {69, 30, 99},
            {70, 30, 99}, {99, 30, 99}, {98, 1, 99}};
        for (int[] each : cases) {
            edges.told(String.format("w%02d;l%02d;", each[0], each[1]));
            edges.due("hours(1)", each[2]);
            edges.due("count(2)", each[2]);
        }
        edges.told("w95;pm09;");
        edges.due("hours(1)", 90);
    }

    private static void people() {
        edges.says(0, "PEOPLE 0 .. as they come (6 at most)");
        edges.asks("count(0)", 0);
        edges.refused("person(0, 0)", -1);
        edges.told("pp00;".repeat(6));
        edges.asks("count(0)", 6);
        edges.asks("person(5, 0)", 0);
        edges.refused("person(6, 0)", -1);
        edges.fault("pp00;", -2000);

        edges.says(0, "FIGURE (0 .. 9), a CAN (0 .. 9: how much he draws at most in a DAY)");
        edges.told("pm00;pm99;h12;");
        edges.due("person(0, 1)", 0);
        edges.due("person(0, 2)", 0);
        edges.due("person(0, 3)", 3);
        edges.due("person(1, 1)", 9);
        edges.due("person(1, 2)", 9);
        edges.due("person(1, 3)", 12);

        edges.says(0, "HAS (0 .. 99; 5 at first), SPOKEN (not at first), DREW (not at first), himself at first");
        edges.told("h05;" + "pl09;".repeat(6));
        for (int person = 0; person < 6; person++) {
            edges.asks("person(" + person + ", 3)", 5);
            edges.asks("person(" + person + ", 4)", 0);
            edges.asks("person(" + person + ", 5)", 0);
            edges.asks("person(" + person + ", 6)", person);
        }
        edges.told("pm07;");
        edges.calls("image()");
        edges.tell("pl09;f10;g150;w99;s1;pl03;h14;");
        edges.due("person(2, 5)", 1);
        edges.calls("on()");
        edges.tell("pw18;pp00;");
        for (int person = 1; person < 3; person++) {
            edges.asks("person(" + person + ", 3)", 5);
            edges.asks("person(" + person + ", 4)", 0);
            edges.asks("person(" + person + ", 5)", 0);
            edges.asks("person(" + person + ", 6)", person);
        }
    }

    private static void friends() {
        edges.says(0, "a FRIEND (one of them, himself, or a number that may not be there yet, 0 .. 5)");
        edges.told("pm07;f01;h01;");
        edges.due("person(0, 3)", 12);
        edges.calls("hours(11)");
        edges.due("person(0, 3)", 10);
        edges.tell("ps00;g100;h01;");
        edges.due("person(0, 3)", 14);
        edges.due("person(1, 3)", 3);
        edges.told("pm07;f05;h01;");
        edges.due("person(0, 6)", 5);
        edges.due("person(0, 3)", 12);
    }

    private static void theHour() {
        edges.says(0, "HOUR (0 .. 999; 0 at first)");
        edges.asks("count(1)", 0);
        edges.told("h60;".repeat(16) + "h39;");
        edges.asks("count(1)", 999);
        edges.refused("hours(1)", -6);
        edges.fault("h01;", -2000);
    }

    private static void lettersOfAHill() {
        edges.says(0, "A HILL is told in letters, one by one (96 at most)");
        edges.letters("w11;".repeat(23) + "l12;");
        edges.due("count(7)", 96);
        edges.due("hill()", 24);
        edges.due("count(2)", 11);
        edges.due("count(3)", 12);
        edges.letters("w11;".repeat(24));
        edges.refused("letter(59)", -6);
        edges.due("hill()", 24);
        edges.letters("pp00;" + "s0;".repeat(29) + "w07;");
        edges.due("count(7)", 96);
        edges.due("hill()", 31);

        edges.says(0, "At least one STATEMENT");
        edges.fault("", -1000);
        edges.tell("w01;");
        edges.fault("", -1000);
    }

    private static void wrongLetters() {
        edges.says(0, "kind 1 the place of the first letter with which no HILL can go on");
        for (String statement : STATEMENTS) {
            for (int place = 0; place < statement.length(); place++) {
                letterIsWrongAt(statement, place);
            }
        }
        for (String ahead : new String[] {"", "w05;", "w05;l05;"}) {
            edges.anew();
            edges.fault(ahead + "x", -1000 - ahead.length());
            edges.anew();
            edges.fault(ahead + ";", -1000 - ahead.length());
        }
        edges.anew();
        edges.fault("w05;".repeat(23) + "w055", -1095);
        edges.anew();
        edges.fault("w05;".repeat(23) + "w0;;", -1094);
        edges.anew();
        edges.fault("w05;".repeat(23) + "x05;", -1092);
    }

    private static void letterIsWrongAt(String statement, int place) {
        String fitting = fittingAt(statement, place);
        for (char c = 0; c < 256; c++) {
            if (fitting.indexOf(c) < 0) {
                edges.anew();
                edges.fault("pp00;" + statement.substring(0, place) + c + statement.substring(place + 1), -1005 - place);
            }
        }
    }

    private static String fittingAt(String statement, int place) {
        if (place == 0) {
            return "pfgwlsh";
        }
        if (place == statement.length() - 1) {
            return ";";
        }
        return statement.charAt(0) == 'p' && place == 1 ? "pwsmtl" : DIGITS;
    }

    private static void somethingLacks() {
        edges.says(0, "the end, if something lacks");
        for (String statement : STATEMENTS) {
            for (int length = 1; length < statement.length(); length++) {
                edges.anew();
                edges.fault(statement.substring(0, length), -1000 - length);
                edges.anew();
                edges.fault("pp00;" + statement.substring(0, length), -1005 - length);
            }
        }
        edges.anew();
        edges.fault("w05;".repeat(23) + "s0;p", -1096);
        edges.anew();
        edges.fault("w05;".repeat(22) + "s0;pp00s", -1095);
        edges.anew();
        edges.fault("w05;".repeat(22) + "g000;w05", -1096);
    }

    private static void numbersOutOfRange() {
        edges.says(0, "a number out of range");
        for (int number = 0; number <= 99; number++) {
            String digits = String.format("%02d;", number);
            statementComes("h" + digits, number >= 1 && number <= 60, "count(1)", number);
            statementComes("l" + digits, number <= 30, "count(3)", number);
            statementComes("w" + digits, true, "count(2)", number);
            statementComes("g0" + digits, true, "person(0, 3)", number);
        }
        for (int digit = 0; digit <= 9; digit++) {
            statementComes("f0" + digit + ";", digit <= 5, "person(0, 6)", digit);
            statementComes("pp" + digit + "0;", true, "person(1, 1)", digit);
            statementComes("pp0" + digit + ";", true, "person(1, 2)", digit);
        }
    }

    private static void statementComes(String statement, boolean comes, String call, int want) {
        edges.anew();
        if (comes) {
            edges.tell("pp00;" + statement);
            edges.due(call, want);
        } else {
            edges.fault("pp00;" + statement, -2005);
        }
    }

    private static void nobodySoFar() {
        edges.says(0, "nobody so far with that number");
        for (int people = 0; people <= 6; people++) {
            for (int digit = 0; digit <= 9; digit++) {
                for (String statement : new String[] {"f" + digit + "0;", "g" + digit + "07;", "s" + digit + ";"}) {
                    String ahead = "pp00;".repeat(people);
                    edges.anew();
                    if (digit < people) {
                        edges.tell(ahead + statement);
                    } else {
                        edges.fault(ahead + statement, -2000 - ahead.length());
                    }
                }
            }
        }
        edges.anew();
        edges.fault("pp00;s1;pp00;", -2005);
        edges.tell("pp00;");
        edges.tell("pp00;s1;");
        edges.due("count(4)", 2);
    }

    private static void hourAboveTheLast() {
        edges.says(0, "HOUR above 999");
        edges.anew();
        edges.fault("h60;".repeat(16) + "h40;", -2064);
        edges.tell("h60;".repeat(15) + "h59;");
        edges.fault("h41;", -2000);
        edges.tell("h40;");
        edges.due("count(1)", 999);
        edges.fault("w01;h01;", -2004);
        edges.fault("h60;", -2000);
        edges.tell("w01;");
    }

    private static void noRoomForMore() {
        edges.says(0, "no room for more");
        edges.fault("pp00;".repeat(7), -2030);
        edges.tell("pp00;".repeat(5));
        edges.fault("pm00;pm00;", -2005);
        edges.due("count(0)", 5);
        edges.tell("pm00;");
        edges.fault("pm00;", -2000);
        edges.due("count(0)", 6);
    }

    private static void whichFaultIsFirst() {
        edges.says(0, "FAULT: kind 1 ..; else kind 2 the place of the first letter of the first STATEMENT");
        edges.fault("l31;h00;s0;x", -1011);
        edges.fault("l31;h00;s0", -1010);
        edges.fault("l31;h00;s0;", -2000);
        edges.fault("l30;h00;s0;", -2004);
        edges.fault("l30;h01;s0;", -2008);
        edges.fault("x;y;", -1000);
    }

    private static void allOrNothing() {
        edges.says(0, "Without FAULT all of it comes, with one nothing");
        edges.told("pp54;w50;l05;h13;");
        edges.fault("pw11;g022;f01;w11;l11;s1;h10;l31;", -2029);
        edges.fault("pw11;g022;f01;w11;l11;s1;h10;l30", -1032);
        edges.tell("pw11;g022;f01;w11;l11;s1;");
        edges.due("count(0)", 2);
        edges.due("person(0, 3)", 22);
        edges.due("person(0, 6)", 1);
        edges.due("count(2)", 11);
        edges.due("count(3)", 11);
        edges.due("count(4)", 2);
        edges.tell("s1;s1;");
        edges.due("count(4)", 2);
    }

    private static void whenKindsSpeak() {
        edges.says(0, "FIGURE by 2, cut, and 1; 3 more (12 at most); 0; 12; twice a WIFE's, 12 at most; as a SCOLD");
        int[][] hours = {{1, 1, 2, 2, 3, 3, 4, 4, 5, 5}, {4, 4, 5, 5, 6, 6, 7, 7, 8, 8}, {0, 0, 0, 0, 0, 0, 0, 0, 0, 0},
            {12, 12, 12, 12, 12, 12, 12, 12, 12, 12}, {8, 8, 10, 10, 12, 12, 12, 12, 12, 12}, {0, 0, 0, 0, 0, 0, 0, 0, 0, 0}};
        for (int kind = 0; kind < 6; kind++) {
            for (int figure = 0; figure < 10; figure++) {
                edges.told("p" + "pwsmtl".charAt(kind) + figure + "0;");
                edges.due("person(0, 7)", hours[kind][figure]);
                speaksFirstIn(hours[kind][figure]);
            }
        }
    }

    private static void speaksFirstIn(int hour) {
        for (int n = 1; n <= 12; n++) {
            edges.due("hours(1)", 30);
            edges.due("person(0, 4)", n > hour ? 1 : 0);
        }
    }

    private static void howMuchKindsDrink() {
        edges.says(0, "how much he drinks at the end of a DAY: 3; 2; 1 more; as a WIFE; 1 less than a WIFE; as a SCOLD");
        edges.told("pp90;pw90;ps90;pm90;pt90;pl90;");
        int[] drinks = {3, 2, 4, 2, 1, 4};
        for (int person = 0; person < 6; person++) {
            edges.asks("person(" + person + ", 8)", drinks[person]);
            edges.asks("hasThen(" + person + ", 12)", 5 - drinks[person]);
        }
    }

    private static void aLiar() {
        edges.says(0, "he draws though he has SPOKEN");
        edges.told("pl05;ps05;h01;");
        edges.due("count(4)", 3);
        edges.due("person(0, 3)", 10);
        edges.due("person(1, 3)", 5);
        edges.told("h01;pl05;s0;h01;");
        edges.due("person(0, 3)", 10);
        edges.told("h01;pl05;h01;");
        edges.due("person(0, 3)", 10);
        edges.due("person(0, 4)", 0);
        edges.calls("hours(1)");
        edges.due("person(0, 3)", 10);
    }

    private static void dawn() {
        edges.says(0, "if HOUR modulo 12 is 0 (dawn): nobody has SPOKEN or DRAWN, THE WELL gets FLOW");
        edges.told("pp05;pm05;h12;");
        edges.due("count(4)", 1);
        edges.due("person(0, 5)", 1);
        edges.due("person(1, 5)", 1);
        edges.due("count(2)", 20);
        edges.refused("speaks(0)", -3);
        edges.calls("cans(0, 0)");
        edges.due("hours(1)", 25);
        edges.due("count(4)", 0);
        edges.due("person(0, 5)", 0);
        edges.due("person(1, 5)", 1);
        edges.told("pm05;h12;s0;");
        edges.due("count(4)", 1);
        edges.due("hours(1)", 30);
        edges.due("count(4)", 0);
        edges.due("hours(1)", 30);
        edges.told("h11;pm05;s0;h01;");
        edges.due("person(0, 4)", 1);
        edges.due("person(0, 5)", 0);
    }

    private static void speakingAheadOfDrawing() {
        edges.says(0, "PEOPLE by numbers: in which HOUR he SPEAKS is this one: he has SPOKEN. Then PEOPLE by numbers");
        edges.told("pm08;ps00;f01;h01;");
        edges.due("person(0, 3)", 9);
        edges.due("person(1, 3)", 9);
        edges.told("h01;pp09;h01;");
        edges.due("person(0, 5)", 0);
        edges.told("h01;pp29;h01;");
        edges.due("person(0, 5)", 1);
        edges.told("w05;l00;pm04;pm04;pm04;h01;");
        edges.due("person(0, 3)", 9);
        edges.due("person(1, 3)", 6);
        edges.due("person(2, 3)", 5);
    }

    private static void whoDraws() {
        edges.says(0, "if HAS is below 20 he draws");
        for (int has : new int[] {0, 1, 18, 19}) {
            edges.told(String.format("pm09;g0%02d;h01;", has));
            edges.due("person(0, 3)", has + 9);
            edges.due("person(0, 5)", 1);
        }
        for (int has : new int[] {20, 21, 98, 99}) {
            edges.told(String.format("pm09;g0%02d;h01;", has));
            edges.due("person(0, 3)", has);
            edges.due("person(0, 5)", 0);
            edges.due("count(2)", 30);
        }
        edges.told("pm09;g020;h01;");
        edges.calls("pours(0, 19)", "hours(1)");
        edges.due("person(0, 3)", 28);

        edges.says(0, "who has not DRAWN and not SPOKEN");
        edges.told("pm09;h01;");
        edges.calls("pours(0, 0)", "hours(10)");
        edges.due("person(0, 3)", 0);
        edges.told("pl09;h01;");
        edges.calls("pours(0, 0)", "hours(10)");
        edges.due("person(0, 3)", 0);
        edges.told("h01;pm09;s0;h10;");
        edges.due("person(0, 3)", 5);
    }

    private static void howMuchIsDrawn() {
        edges.says(0, "what his CAN holds, or all WATER there is, if that is less");
        int[][] cases = {{0, 5, 0}, {1, 5, 1}, {4, 5, 4}, {5, 5, 5}, {6, 5, 5}, {99, 9, 9}, {99, 0, 0}, {1, 9, 1}, {8, 9, 8}};
        for (int[] each : cases) {
            edges.told(String.format("w%02d;l00;pm0%d;h01;", each[0], each[1]));
            edges.due("person(0, 3)", 5 + each[2]);
            edges.due("count(2)", each[0] - each[2]);
        }
    }

    private static void drewOrNot() {
        edges.says(0, "DREW, if it is more than nothing");
        edges.told("pm00;h01;");
        edges.due("person(0, 5)", 0);
        edges.calls("cans(0, 1)", "hours(1)");
        edges.due("person(0, 5)", 1);
        edges.due("person(0, 3)", 6);
        edges.told("w00;l00;pm01;h01;");
        edges.due("person(0, 5)", 0);
        edges.calls("water(3)", "hours(1)");
        edges.due("person(0, 5)", 1);
        edges.due("person(0, 3)", 6);
        edges.due("count(2)", 2);
        edges.calls("hours(9)");
        edges.due("count(2)", 2);
    }

    private static void giving() {
        edges.says(0, "if his FRIEND is another one who has SPOKEN and has less than he has");
        gives("pm07;ps00;f01;g111;", 9, 14);
        gives("pm07;ps00;f01;g112;", 12, 12);
        gives("pm07;ps00;f01;g113;", 12, 13);
        gives("pm07;ps00;f01;g100;", 9, 3);
        gives("pm07;ps00;f01;g199;", 12, 99);
        gives("pm07;pm00;f01;", 12, 5);
        gives("pm07;pt00;f01;", 12, 5);
        gives("pm07;ps00;f00;", 12, 5);
        gives("pm07;ps00;f02;", 12, 5);
        gives("pl07;ps00;f00;", 12, 5);
        gives("ps00;pm07;f10;", 8, 9);

        edges.says(0, "he gives that one half of what he drew, cut");
        int[] halves = {0, 0, 1, 1, 2, 2, 3, 3, 4, 4};
        for (int can = 0; can <= 9; can++) {
            gives("pm0" + can + ";ps00;f01;g104;", 5 + can - halves[can], 4 + halves[can]);
            gives("l00;w0" + can + ";pm09;ps00;f01;g104;", 5 + can - halves[can], 4 + halves[can]);
        }

        // Who gives has 28 at most, and the other less: so 99 is never passed, and 31 is the most.
        edges.says(0, "that one HAS 99 at most");
        gives("pm09;ps00;f01;g019;g127;", 24, 31);
        gives("pm09;ps00;f01;g019;g128;", 28, 28);
        gives("pm09;ps00;f01;g019;g199;", 28, 99);
    }

    private static void gives(String letters, int has, int hasOther) {
        edges.told(letters + "h01;");
        edges.due("person(0, 3)", has);
        edges.due("person(1, 3)", hasOther);
    }

    private static void theFriendsTurn() {
        edges.says(0, "Then PEOPLE by numbers .. if HAS is below 20 he draws (what he was given counts)");
        edges.told("pm09;pl09;f01;g019;g115;h01;");
        edges.due("person(0, 3)", 24);
        edges.due("person(1, 3)", 28);
        edges.told("pm09;pl09;f01;g019;g116;h01;");
        edges.due("person(0, 3)", 24);
        edges.due("person(1, 3)", 20);
        edges.due("person(1, 5)", 0);
        edges.told("pl09;pm09;f10;g016;g119;h01;");
        edges.due("person(0, 3)", 29);
        edges.due("person(1, 3)", 24);
    }

    private static void drinking() {
        edges.says(0, "In HOUR 11 (modulo 12), behind that, each drinks (HAS 0 at least)");
        int[][] cases = {{0, 0}, {1, 0}, {2, 0}, {3, 0}, {4, 1}, {99, 96}};
        for (int[] each : cases) {
            edges.told(String.format("pp00;g0%02d;h11;", each[0]));
            edges.due("person(0, 3)", each[0]);
            edges.calls("hours(1)");
            edges.due("person(0, 3)", each[1]);
            edges.calls("hours(11)");
            edges.due("person(0, 3)", each[1]);
            edges.calls("hours(1)");
            edges.due("person(0, 3)", Math.max(0, each[1] - 3));
        }
        edges.told("h11;pm07;g000;h01;");
        edges.due("person(0, 3)", 5);
        edges.told("h11;pm09;g019;h01;");
        edges.due("person(0, 3)", 26);
        edges.told("h11;pm09;g020;h01;");
        edges.due("person(0, 3)", 18);
    }

    private static void thoughtBeyondTheLastHour() {
        edges.says(0, "In thought HOUR may pass 999");
        edges.told("h60;".repeat(16) + "h39;");
        edges.tell("l00;w99;pm01;");
        edges.asks("hasThen(0, 9)", 4);
        edges.asks("hasThen(0, 10)", 5);
        edges.asks("hasThen(0, 60)", 1);
        edges.asks("then(60, 0)", 93);
        edges.asks("dry(0)", 57);
        edges.asks("count(1)", 999);
    }
}

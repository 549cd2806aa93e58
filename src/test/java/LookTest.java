/** Promises 25 to 37: looking at what there is, odds, rows, lots. */
public final class LookTest {
    private static final Check check = new Check();
    private static final int LEAST = Integer.MIN_VALUE;
    private static final int MOST = Integer.MAX_VALUE;

    public static void main(String[] args) {
        richest();
        quiet();
        thirst();
        lasts();
        carries();
        two();
        sneeze();
        sneezeRefused();
        mean();
        whatIsByKind();
        whatIsByFigure();
        row();
        judge();
        clear();
        lots();
        check.end();
    }

    private static void richest() {
        WellOfTheSilent x = check.told("pp00;pw40;pm00;pt40;ps00;g007;g109;g209;g304;g404;");
        check.due("RICHEST", x.richest(0), 1);
        check.due("POOREST", x.richest(1), 3);
        check.due("LONGEST", x.richest(2), 2);
        x.pours(4, 0);
        check.due("POOREST", x.richest(1), 4);
        WellOfTheSilent first = check.told("pm00;ps00;g006;");
        check.due("RICHEST is the first", first.richest(0), 0);
        check.due("LONGEST is the first", first.richest(2), 0);
        first.pours(0, 4);
        check.due("POOREST is the first", first.richest(1), 0);
        WellOfTheSilent nobody = new WellOfTheSilent();
        for (int what = 0; what < 3; what++) {
            int told = what;
            check.due("richest of nobody", nobody.richest(what), -9);
            check.changesNothing(first, "richest", () -> first.richest(told));
        }
        check.refuses(first, "richest(3)", () -> first.richest(3), -2);
        check.refuses(nobody, "richest(-1)", () -> nobody.richest(-1), -2);
    }

    private static void quiet() {
        WellOfTheSilent x = check.told("pp20;pw20;ps20;pm20;pt20;pl20;h05;");
        int[] want = {4, 4, 3, 3, 3, 2, 2, 2, 2, 2, 1, 1};
        for (int hour = 0; hour < 12; hour++) {
            check.due("quiet(" + hour + ")", x.quiet(hour), want[hour]);
        }
        WellOfTheSilent asked = check.told("pp20;pw20;h05;");
        check.changesNothing(asked, "quiet(0)", () -> asked.quiet(0));
        check.refuses(asked, "quiet(-1)", () -> asked.quiet(-1), -4);
        check.refuses(asked, "quiet(12)", () -> asked.quiet(12), -6);
        check.due("quiet of nobody", new WellOfTheSilent().quiet(0), 0);
    }

    private static void thirst() {
        check.due("thirst()", check.told("pp20;pw20;ps20;pm20;pt20;pl20;").thirst(), 16);
        check.due("thirst()", check.told("pp20;ps20;g000;").thirst(), 7);
        check.due("thirst() of nobody", new WellOfTheSilent().thirst(), 0);
        WellOfTheSilent x = check.told("pp20;");
        check.changesNothing(x, "thirst()", x::thirst);
    }

    private static void lasts() {
        WellOfTheSilent x = check.told("pp20;pw20;ps20;pt20;g008;g109;g203;g399;");
        int[] want = {2, 4, 0, 99};
        for (int person = 0; person < want.length; person++) {
            check.due("lasts(" + person + ")", x.lasts(person), want[person]);
        }
        check.changesNothing(x, "lasts(0)", () -> x.lasts(0));
        check.refuses(x, "lasts(4)", () -> x.lasts(4), -1);
        check.refuses(x, "lasts(-1)", () -> x.lasts(-1), -1);
    }

    private static void carries() {
        WellOfTheSilent x = check.told("pp00;pp00;pp00;pp00;pp00;f01;f10;f23;f32;f45;");
        check.due("CARRIES", x.carries(0), 15);
        check.due("MUTUAL", x.carries(1), 2);
        x.befriends(2, 2);
        check.due("CARRIES", x.carries(0), 7);
        check.due("MUTUAL", x.carries(1), 1);
        x.befriends(0, 0);
        x.befriends(3, 3);
        check.due("CARRIES", x.carries(0), 1);
        check.due("MUTUAL", x.carries(1), 0);
        x.befriends(1, 1);
        check.due("none CARRIES", x.carries(0), 0);
        x.befriends(1, 0);
        Check.tell(x, "pp00;f54;");
        check.due("the FRIEND has come", x.carries(0), 49);
        check.due("MUTUAL", x.carries(1), 1);
        WellOfTheSilent asked = check.told("pp00;pp00;f01;");
        check.changesNothing(asked, "carries(0)", () -> asked.carries(0));
        check.changesNothing(asked, "carries(1)", () -> asked.carries(1));
        check.refuses(asked, "carries(2)", () -> asked.carries(2), -2);
        check.refuses(asked, "carries(-1)", () -> asked.carries(-1), -2);
    }

    private static void two() {
        check.due("2 more for speaking", check.told("h01;pm09;pm09;").two(0, 1, 0), 11);
        check.due("both hold their tongue", check.told("h01;pm09;pm09;").two(0, 1, 1), 0);
        check.due("the first speaks", check.told("h01;pm01;pm09;").two(0, 1, 1), 10);
        check.due("the other speaks", check.told("h01;pm01;pm09;").two(1, 0, 1), 1);
        check.due("the first pair", check.told("h01;pm02;pm02;").two(0, 1, 1), 0);
        check.due("who has SPOKEN stays so", check.told("h01;pm09;pm09;s1;").two(0, 1, 1), 1);
        check.due("a LIAR", check.told("h01;pl09;pm09;").two(0, 1, 1), 10);
        check.due("dawn takes it back", check.told("pm09;pm09;").two(0, 1, 24), 11);
        // Only if the other speaks does the first come to draw, and gives him half of it.
        check.due("the other's word counts", check.told("h01;w04;pm09;pm09;f10;g105;").two(1, 0, 1), 1);
        String noPair = "h01;w05;pt59;pw65;pp67;f01;g005;f12;g104;f20;g211;";
        check.due("no pair", check.told(noPair).two(0, 1, 1), -9);
        WellOfTheSilent x = check.told("pp09;pp09;");
        check.changesNothing(x, "two(0, 1, 24)", () -> x.two(0, 1, 24));
        int[][] wrong = {{0, 0, -1, -1}, {0, 2, 25, -1}, {2, 0, 0, -1}, {-1, 0, 0, -1}, {0, -1, 0, -1}, {0, 1, -1, -4},
            {0, 1, 25, -6}};
        for (int[] each : wrong) {
            WellOfTheSilent y = check.told("pp09;pp09;");
            String call = "two(" + each[0] + ", " + each[1] + ", " + each[2] + ")";
            check.refuses(y, call, () -> y.two(each[0], each[1], each[2]), each[3]);
        }
    }

    private static void sneeze() {
        odds("pm09;", new int[] {1, 3, 14}, 2, 3);
        odds("pm09;", new int[] {2, 3, 14}, 2, 3);
        odds("pm09;", new int[] {1, 3, 15}, 0, 1);
        odds("pm09;", new int[] {7, 20, 5}, 1, 1);
        odds("pm09;", new int[] {0, 2, 5}, 1, 1);
        odds("pm09;", new int[] {0, 2, 6}, 0, 1);
        odds("h11;pm09;", new int[] {2, 3, 12}, 8, 9);
        odds("h11;pm09;", new int[] {2, 3, 13}, 4, 9);
        odds("h11;pm09;", new int[] {2, 3, 21}, 4, 9);
        odds("h11;pm09;", new int[] {2, 3, 3}, 1, 1);
        odds("h11;pm09;", new int[] {7, 20, 13}, 361, 400);
        odds("h11;pm09;", new int[] {1, 20, 12}, 19, 20);
        odds("pl09;", new int[] {7, 2, 14}, 1, 1);
        odds("ps09;", new int[] {7, 2, 6}, 0, 1);
        odds("pm09;pm08;f10;", new int[] {1, 2, 9}, 1, 1);
        odds("pm09;pm08;f10;", new int[] {1, 2, 10}, 1, 2);
        odds("h06;pm09;", new int[] {7, 4, 21}, 9, 16);
        WellOfTheSilent x = check.told("h11;pm09;pp20;");
        check.changesNothing(x, "sneeze", () -> x.sneeze(0, 7, 20, 99, 1));
    }

    private static void odds(String letters, int[] asked, long above, long below) {
        WellOfTheSilent x = check.told(letters);
        String call = letters + " sneeze(0, " + asked[0] + ", " + asked[1] + ", " + asked[2];
        check.due(call + ", 0)", x.sneeze(0, asked[0], asked[1], asked[2], 0), above);
        check.due(call + ", 1)", x.sneeze(0, asked[0], asked[1], asked[2], 1), below);
    }

    private static void sneezeRefused() {
        sneezeRefuses("of nobody", new int[] {1, -1, 1, -1, 2}, -1);
        sneezeRefuses("of -1", new int[] {-1, 0, 2, 0, 0}, -1);
        sneezeRefuses("n below", new int[] {0, -1, 21, 100, 2}, -4);
        sneezeRefuses("t below", new int[] {0, 8, 1, 100, 2}, -4);
        sneezeRefuses("v below", new int[] {0, 8, 21, -1, 2}, -4);
        sneezeRefuses("n above", new int[] {0, 8, 2, 0, 2}, -6);
        sneezeRefuses("t above", new int[] {0, 0, 21, 0, 2}, -6);
        sneezeRefuses("v above", new int[] {0, 0, 2, 100, 2}, -6);
        sneezeRefuses("part above", new int[] {0, 7, 20, 99, 2}, -2);
        sneezeRefuses("part below", new int[] {0, 7, 20, 99, -1}, -2);
        sneezeRefuses("far above", new int[] {0, MOST, MOST, MOST, MOST}, -6);
    }

    private static void sneezeRefuses(String what, int[] asked, int refusal) {
        WellOfTheSilent x = check.told("pm09;");
        check.refuses(x, "sneeze " + what, () -> x.sneeze(asked[0], asked[1], asked[2], asked[3], asked[4]), refusal);
    }

    private static void mean() {
        WellOfTheSilent x = check.told("pp00;pp00;pp00;pp00;g009;g103;");
        check.due("mean(0)", x.mean(0), 11);
        check.due("mean(1)", x.mean(1), 2);
        WellOfTheSilent alone = check.told("pp00;g007;");
        check.due("mean(0) of one", alone.mean(0), 7);
        check.due("mean(1) of one", alone.mean(1), 1);
        WellOfTheSilent dry = check.told("pp00;pp00;g000;g100;");
        check.due("mean(0) of 0", dry.mean(0), 0);
        check.due("mean(1) of 0", dry.mean(1), 1);
        WellOfTheSilent nobody = new WellOfTheSilent();
        check.due("mean(0) of nobody", nobody.mean(0), 0);
        check.due("mean(1) of nobody", nobody.mean(1), 1);
        check.changesNothing(x, "mean(0)", () -> x.mean(0));
        check.refuses(x, "mean(2)", () -> x.mean(2), -2);
        check.refuses(nobody, "mean(-1)", () -> nobody.mean(-1), -2);
    }

    private static void whatIsByKind() {
        WellOfTheSilent x = check.told("pp45;pp00;");
        check.due("no ROW", x.whatIs(0, 0), 63);
        Check.withRow(x, 5);
        check.due("HAS now", x.whatIs(0, 0), 63);
        Check.withRow(x, 6);
        check.due("not HAS now", x.whatIs(0, 0), 0);
        Check.withRow(x, 5, 10);
        check.due("who draws at dawn", x.whatIs(0, 0), 59);
        Check.withRow(x, 5, 5);
        check.due("who does not", x.whatIs(0, 0), 4);
        int[] behindTheDay = {6, 7, 8, 9};
        int[] want = {32, 1, 10, 16};
        for (int i = 0; i < want.length; i++) {
            Check.withRow(x, 5, 10, 10, 10, 10, 10, 10, 10, 10, 10, 10, 10, behindTheDay[i]);
            check.due("drinks to " + behindTheDay[i], x.whatIs(0, 0), want[i]);
        }
        check.due("the ROW stays", x.count(6), 13);
        check.changesNothing(x, "whatIs(0, 0)", () -> x.whatIs(0, 0));
        check.refuses(x, "whatIs(2, 2)", () -> x.whatIs(2, 2), -1);
        check.refuses(x, "whatIs(-1, 0)", () -> x.whatIs(-1, 0), -1);
        check.refuses(x, "whatIs(0, 2)", () -> x.whatIs(0, 2), -2);
        check.refuses(x, "whatIs(0, -1)", () -> x.whatIs(0, -1), -2);
    }

    private static void whatIsByFigure() {
        WellOfTheSilent x = check.told("h01;pp05;pw05;");
        check.due("no ROW", x.whatIs(0, 1), 1023);
        Check.withRow(x, 5, 5);
        check.due("who SPEAKS in HOUR 1", x.whatIs(0, 1), 3);
        check.due("a WIFE does not", x.whatIs(1, 1), 0);
        Check.withRow(x, 5, 10);
        check.due("who SPEAKS later", x.whatIs(0, 1), 1020);
        check.due("a WIFE does", x.whatIs(1, 1), 1023);
        check.due("KINDS with his FIGURE", x.whatIs(0, 0), 62);
        WellOfTheSilent late = check.told("h05;pp05;");
        Check.withRow(late, 5, 5);
        check.due("HOUR 5", late.whatIs(0, 1), 768);
    }

    private static void row() {
        WellOfTheSilent x = new WellOfTheSilent();
        check.refuses(x, "row(-1)", () -> x.row(-1), -4);
        check.refuses(x, "row(100)", () -> x.row(100), -6);
        check.due("row(99)", x.row(99), 1);
        for (int n = 2; n <= 16; n++) {
            check.due("row(0)", x.row(0), n);
        }
        check.refuses(x, "row(0) of a full one", () -> x.row(0), -6);
        check.refuses(x, "row(-1) of a full one", () -> x.row(-1), -4);
        check.refuses(x, "row(least)", () -> x.row(LEAST), -4);
        check.due("count(6)", x.count(6), 16);
    }

    private static void judge() {
        WellOfTheSilent x = check.told("pp05;pp03;");
        check.due("no ROW", x.judge(), -9);
        check.due("so", Check.withRow(x, 5, 3).judge(), -9);
        check.due("the ROW has none then", x.count(6), 0);
        check.due("so, as far as told", Check.withRow(x, 5).judge(), -9);
        check.due("the first", Check.withRow(x, 4, 4).judge(), 0);
        check.due("the ROW has none then", x.count(6), 0);
        check.due("the second", Check.withRow(x, 5, 4).judge(), 1);
        check.due("nobody there", Check.withRow(x, 5, 3, 0).judge(), 2);
        check.due("too large", Check.withRow(x, 99).judge(), 0);
        WellOfTheSilent six = check.told("pp00;".repeat(6));
        check.due("nobody there", Check.withRow(six, new int[16]).judge(), 6);
        check.due("PEOPLE stay", six.count(0), 6);
    }

    private static void clear() {
        WellOfTheSilent x = check.told("pp05;");
        check.due("clear()", x.clear(), 0);
        Check.withRow(x, 5, 6, 7);
        check.due("clear()", x.clear(), 3);
        check.due("the ROW has none then", x.count(6), 0);
        check.due("row(1)", x.row(1), 1);
    }

    private static void lots() {
        lot("w00;pm09;", 1, 0, 18, 0);
        lot("w00;pm09;ps09;pp40;", 3, -1, 64, 6);
        lot("w00;pm09;ps09;pp40;", 20, MOST, 462, 40);
        lot("l00;w00;h05;pm09;pm09;pl97;", 20, 12345, 889, 7);
        WellOfTheSilent x = check.told("w00;pm09;ps09;");
        check.changesNothing(x, "lots(20, 7, 0)", () -> x.lots(20, 7, 0));
        check.due("lots of nobody", new WellOfTheSilent().lots(20, LEAST, 0), 0);
        check.refuses(x, "lots(0, 0, 2)", () -> x.lots(0, 0, 2), -4);
        check.refuses(x, "lots(21, 0, 2)", () -> x.lots(21, 0, 2), -6);
        check.refuses(x, "lots(20, 0, 2)", () -> x.lots(20, 0, 2), -2);
        check.refuses(x, "lots(1, 0, -1)", () -> x.lots(1, 0, -1), -2);
    }

    private static void lot(String letters, int n, int z, int all, int dry) {
        WellOfTheSilent x = check.told(letters);
        check.due(letters + " lots(" + n + ", " + z + ", 0)", x.lots(n, z, 0), all);
        check.due(letters + " lots(" + n + ", " + z + ", 1)", x.lots(n, z, 1), dry);
    }
}

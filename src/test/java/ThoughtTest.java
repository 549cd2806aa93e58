import java.util.function.ToIntBiFunction;

/** Promises 13 to 24: what comes of it in thought, and what would be better. */
public final class ThoughtTest {
    private static final Check check = new Check();
    private static final int LEAST = Integer.MIN_VALUE;
    private static final int MOST = Integer.MAX_VALUE;

    public static void main(String[] args) {
        hasThen();
        then();
        thoughtPassesTheLastHour();
        dry();
        empty();
        flowBest();
        canBest();
        friendBest();
        hush();
        fewest();
        word();
        send();
        next();
        check.end();
    }

    // Each look is at an object of its own, for one object has no more than the 512 promised calls.
    private static void refusesNumbers(String letters, String call, ToIntBiFunction<WellOfTheSilent, Integer> run,
            int least, int most) {
        refuses(letters, call, run, least - 1, -4);
        refuses(letters, call, run, most + 1, -6);
        refuses(letters, call, run, LEAST, -4);
        refuses(letters, call, run, MOST, -6);
        for (int n : new int[] {least, most}) {
            WellOfTheSilent x = check.told(letters);
            check.changesNothing(x, call + " with " + n, () -> run.applyAsInt(x, n));
        }
    }

    private static void refusesNobody(String letters, String call, ToIntBiFunction<WellOfTheSilent, Integer> run) {
        int people = check.told(letters).count(0);
        for (int person : new int[] {people, -2, LEAST, MOST}) {
            refuses(letters, call, run, person, -1);
        }
    }

    private static void refuses(String letters, String call, ToIntBiFunction<WellOfTheSilent, Integer> run,
            int number, int refusal) {
        WellOfTheSilent x = check.told(letters);
        check.refuses(x, call + " with " + number, () -> run.applyAsInt(x, number), refusal);
    }

    private static void hasThen() {
        WellOfTheSilent x = check.told("pp05;");
        int[] hours = {0, 1, 2, 11, 12, 13, 24, 36, 48, 60};
        int[] want = {5, 10, 10, 10, 7, 12, 9, 11, 13, 15};
        for (int i = 0; i < hours.length; i++) {
            check.due("hasThen(0, " + hours[i] + ")", x.hasThen(0, hours[i]), want[i]);
        }
        refusesNumbers("pp05;", "hasThen(0, n)", (y, n) -> y.hasThen(0, n), 0, 60);
        refusesNobody("pp05;", "hasThen(person, 61)", (y, person) -> y.hasThen(person, 61));
    }

    private static void then() {
        WellOfTheSilent x = check.told("pp05;pm04;pl03;");
        int[] hours = {0, 1, 2, 12, 13, 24};
        int[][] want = {{20, 0, 0, 15}, {18, 4, 7, 27}, {18, 5, 7, 27}, {18, 5, 7, 18}, {16, 4, 7, 30}, {16, 5, 7, 21}};
        for (int i = 0; i < hours.length; i++) {
            for (int what = 0; what < 4; what++) {
                check.due("then(" + hours[i] + ", " + what + ")", x.then(hours[i], what), want[i][what]);
            }
        }
        refusesNumbers("pp05;pm04;pl03;", "then(n, 0)", (y, n) -> y.then(n, 0), 0, 60);
        refusesNumbers("pp05;pm04;pl03;", "then(n, 3)", (y, n) -> y.then(n, 3), 0, 60);
        refuses("pp05;pm04;pl03;", "then(60, what)", (y, what) -> y.then(60, what), 4, -2);
        refuses("pp05;pm04;pl03;", "then(0, what)", (y, what) -> y.then(0, what), -1, -2);
        refuses("pp05;pm04;pl03;", "then(n, 4)", (y, n) -> y.then(n, 4), -1, -4);
        refuses("pp05;pm04;pl03;", "then(n, 4)", (y, n) -> y.then(n, 4), 61, -6);
    }

    private static void thoughtPassesTheLastHour() {
        WellOfTheSilent x = new WellOfTheSilent();
        Check.tell(x, "h60;".repeat(16));
        Check.tell(x, "h39;l00;w99;pm01;");
        check.due("HOUR", x.count(1), 999);
        check.due("HAS behind 9 HOURS more", x.hasThen(0, 9), 4);
        check.due("HAS behind 60 HOURS more", x.hasThen(0, 60), 1);
        check.due("DRY", x.dry(0), 57);
    }

    private static void dry() {
        WellOfTheSilent x = check.told("pt00;pw00;ps00;pp00;pm00;g406;");
        int[] want = {60, 36, 24, 24, 36};
        for (int person = 0; person < want.length; person++) {
            check.due("dry(" + person + ")", x.dry(person), want[person]);
        }
        check.due("FIRST", x.dry(-1), 2);
        x.pours(0, 6);
        check.due("dry(0) with 6", x.dry(0), -9);
        x.pours(4, 0);
        check.due("dry(4) with 0", x.dry(4), 0);
        check.due("FIRST", x.dry(-1), 4);
        refusesNobody("pt00;pw00;ps00;pp00;pm00;g406;", "dry(person)", WellOfTheSilent::dry);
        check.due("FIRST at the end", check.told("pt00;").dry(-1), 0);
        check.due("FIRST behind the end", check.told("pt00;g006;").dry(-1), -9);
        check.due("FIRST of nobody", new WellOfTheSilent().dry(-1), -9);
        WellOfTheSilent asked = check.told("pt00;pm09;");
        check.changesNothing(asked, "dry(-1)", () -> asked.dry(-1));
        check.changesNothing(asked, "dry(0)", () -> asked.dry(0));
        check.due("DRY for an HOUR", check.told("h11;pm09;g002;s0;").dry(0), 1);
    }

    private static void empty() {
        check.due("empty now", check.told("w00;pp05;").empty(), 0);
        check.due("empty in the first HOUR", check.told("l00;w05;pp05;").empty(), 1);
        check.due("empty at the next dawn", check.told("l00;w06;pp05;").empty(), 13);
        check.due("empty at the end", check.told("h01;l00;w20;pp04;").empty(), 60);
        check.due("empty behind the end", check.told("h01;l00;w24;pp04;").empty(), -9);
        check.due("nobody empties it", new WellOfTheSilent().empty(), -9);
        WellOfTheSilent x = check.told("l00;w05;pp05;");
        check.changesNothing(x, "empty()", x::empty);
    }

    private static void flowBest() {
        WellOfTheSilent x = check.told("w00;pp09;");
        check.due("flowBest(23)", x.flowBest(23), 0);
        check.due("flowBest(24)", x.flowBest(24), 1);
        check.due("flowBest(48)", x.flowBest(48), 2);
        refusesNumbers("w00;pp09;", "flowBest(n)", WellOfTheSilent::flowBest, 0, 48);
        check.due("the most FLOW", check.told("w00;pp09;pp09;pp09;pp09;g301;").flowBest(12), 30);
        check.due("no FLOW does", check.told("w00;pp09;pp09;pp09;pp09;g300;").flowBest(12), -9);
        check.due("without a CAN", check.told("pp00;").flowBest(24), -9);
        check.due("of nobody", new WellOfTheSilent().flowBest(48), 0);
        WellOfTheSilent dryBetween = check.told("w00;pm09;g002;");
        check.due("DRY behind 12, not behind 13", dryBetween.flowBest(13), 1);
    }

    private static void canBest() {
        WellOfTheSilent x = check.told("pp09;pp00;g100;");
        check.due("canBest(0, 12)", x.canBest(0, 12), 0);
        check.due("canBest(0, 24)", x.canBest(0, 24), 1);
        check.due("canBest(0, 48)", x.canBest(0, 48), 2);
        check.due("canBest of a DRY one", x.canBest(1, 0), -9);
        refusesNumbers("pp09;pp00;g100;", "canBest(0, n)", (y, n) -> y.canBest(0, n), 0, 48);
        refusesNobody("pp09;pp00;g100;", "canBest(person, -1)", (y, person) -> y.canBest(person, -1));
        check.due("without WATER", check.told("w00;l00;pp09;").canBest(0, 24), -9);
        check.due("who gives half of it", check.told("ps00;pm09;f10;g001;g101;").canBest(1, 12), 3);
        check.due("of a SCOLD", check.told("ps00;").canBest(0, 24), -9);
        check.due("the most CAN", check.told("l00;w09;pp00;pp09;g004;").canBest(0, 48), 9);
    }

    private static void friendBest() {
        WellOfTheSilent x = check.told("pp08;ps00;pw09;");
        check.due("friendBest(0, 12)", x.friendBest(0, 12), 1);
        check.due("friendBest(2, 12)", x.friendBest(2, 12), 1);
        check.due("friendBest(1, 12)", x.friendBest(1, 12), -9);
        check.due("friendBest(0, 0)", x.friendBest(0, 0), -9);
        refusesNumbers("pp08;ps00;pw09;", "friendBest(0, n)", (y, n) -> y.friendBest(0, n), 0, 48);
        refusesNobody("pp08;ps00;pw09;", "friendBest(person, 49)", (y, person) -> y.friendBest(person, 49));
        x.befriends(0, 1);
        check.due("the best already", x.friendBest(0, 12), -9);
        WellOfTheSilent several = check.told("pp08;pp09;pp09;ps09;f03;g312;");
        check.due("of several the least", several.friendBest(0, 1), 1);
        check.due("the first of PEOPLE", check.told("ps00;pp08;").friendBest(1, 12), 0);
        check.due("none but himself", check.told("ps09;pp08;f10;g099;").friendBest(1, 1), -9);
        check.due("a FRIEND must be there", check.told("pp08;ps00;f01;g012;").friendBest(0, 1), -9);
    }

    private static void hush() {
        check.due("a SCOLD", check.told("ps09;").hush(1), 0);
        check.due("of several the least", check.told("ps05;ps05;").hush(1), 0);
        check.due("the most", check.told("ps04;ps05;").hush(1), 1);
        check.due("a MUTE", check.told("pm05;").hush(48), -9);
        check.due("now", check.told("ps09;").hush(0), -9);
        check.due("he drinks as he does", check.told("ps00;").hush(12), -9);
        WellOfTheSilent x = check.told("ps09;h01;");
        check.due("who has SPOKEN has, for this DAY", x.hush(11), -9);
        check.due("from the next dawn", x.hush(12), 0);
        refusesNumbers("ps09;h01;", "hush(n)", WellOfTheSilent::hush, 0, 48);
        check.due("of nobody", new WellOfTheSilent().hush(48), -9);
    }

    private static void fewest() {
        check.due("nobody need be hushed", check.told("ps09;ps09;").fewest(23), 0);
        check.due("both", check.told("ps09;ps09;").fewest(24), 3);
        check.due("the one who speaks", check.told("pm09;ps09;").fewest(24), 2);
        check.due("of several the least", check.told("ps09;ps09;f01;f10;").fewest(24), 1);
        check.due("the fewest, not the least", check.told("ps00;ps00;ps09;g099;g199;").fewest(24), 4);
        check.due("no hushing does", check.told("ps00;").fewest(24), -9);
        check.due("DRY now", check.told("pm09;g000;").fewest(0), -9);
        // A hushed LIAR is a MUTE, so SPOKEN he leaves this DAY's WATER to the next.
        check.due("a LIAR", check.told("h01;w02;l00;pl02;s0;pm02;g101;").fewest(11), 1);
        check.due("of nobody", new WellOfTheSilent().fewest(24), 0);
        refusesNumbers("ps09;ps09;", "fewest(n)", WellOfTheSilent::fewest, 0, 24);
    }

    private static void word() {
        check.due("the dearest", check.told("h01;pp43;pp45;").word(1), 1);
        check.due("of several the least", check.told("h01;pp45;pp45;").word(1), 0);
        check.due("a LIAR's costs nothing", check.told("h01;pl49;pp43;").word(1), 1);
        check.due("none costs", check.told("h01;pl49;").word(24), -9);
        check.due("dawn takes it back", check.told("pp49;").word(1), -9);
        check.due("who has SPOKEN", check.told("h01;pp45;pp43;s0;").word(1), 1);
        check.due("of nobody", new WellOfTheSilent().word(24), -9);
        check.due("at the end", check.told("h01;w09;l00;pm09;pm09;g100;").word(11), 0);
        refusesNumbers("h01;pp43;pp45;", "word(n)", WellOfTheSilent::word, 1, 24);
    }

    private static void send() {
        WellOfTheSilent x = check.told("l00;w00;ps09;pm09;pm09;g009;g102;g202;");
        check.due("send(12, 0)", x.send(12, 0), 2);
        check.due("send(12, 1)", x.send(12, 1), 2);
        check.due("send(0, 0)", x.send(0, 0), 0);
        check.due("send(0, 1)", x.send(0, 1), 2);
        WellOfTheSilent given = check.told("l00;w00;ps00;pm09;g009;g102;");
        check.due("his WATER comes to THE WELL", given.send(12, 0), 0);
        check.due("how many", given.send(12, 1), 1);
        check.due("1 is not DRY", check.told("ps00;pp00;g104;").send(12, 1), 1);
        check.due("he HAS 0 then", check.told("l00;w04;pm04;ps00;f01;g000;g104;").send(12, 1), 0);
        WellOfTheSilent none = check.told("pp00;pp00;");
        check.due("none not DRY", none.send(24, 0), 0);
        check.due("how many", none.send(24, 1), 0);
        check.due("of nobody", new WellOfTheSilent().send(24, 0), -9);
        check.due("how many of nobody", new WellOfTheSilent().send(24, 1), -9);
        refusesNumbers("pp00;pp00;", "send(n, 0)", (y, n) -> y.send(n, 0), 0, 24);
        refusesNumbers("pp00;pp00;", "send(n, 1)", (y, n) -> y.send(n, 1), 0, 24);
        refuses("pp00;pp00;", "send(0, what)", (y, what) -> y.send(0, what), 2, -2);
        refuses("pp00;pp00;", "send(24, what)", (y, what) -> y.send(24, what), -1, -2);
        refuses("pp00;pp00;", "send(n, 2)", (y, n) -> y.send(n, 2), -1, -4);
        refuses("pp00;pp00;", "send(n, 2)", (y, n) -> y.send(n, 2), 25, -6);
    }

    private static void next() {
        WellOfTheSilent x = check.told("pp05;ps05;pl05;pm00;");
        check.due("next() at dawn", x.next(), 5);
        check.changesNothing(x, "next()", x::next);
        x.hours(1);
        check.due("next() behind it", x.next(), 0);
        x.hours(11);
        check.due("next() at the next dawn", x.next(), 5);
        check.due("without WATER", check.told("w00;l00;pp05;").next(), 0);
        check.due("the last WATER", check.told("w05;l00;pp05;pp05;").next(), 1);
        check.due("who HAS 19", check.told("pp05;g019;").next(), 1);
        check.due("who HAS 20", check.told("pp05;g020;").next(), 0);
        check.due("who SPEAKS then", check.told("h02;pp25;pp45;").next(), 2);
    }
}

import java.math.BigInteger;

/**
 * Each sentence of the document about a call (Terms 2, promises 6 to 44) that names a boundary, with tests of its
 * own: what stands just inside it, and just outside; what is empty, what is full, what wraps around.
 */
public final class CallBoundaries {
    private static final int BAD = -1, STATE = -2, FULL = -3, NONE = -4;
    private static final int MIN = Integer.MIN_VALUE, MAX = Integer.MAX_VALUE;
    private static final String SIX = "road 1;up 2;down 3;road 4;up 5;down 9;";
    private static final String FIVE = "order plain 1 1 1 99;order eggs 1 2 2 99;order ice 1 3 3 99;order soda 1 4 4 99;"
        + "order paraffin 1 5 5 99;";

    private static int wrong = 0;
    private static String sentence = "";

    private interface Call {
        long with(int v);
    }

    public static void main(String[] args) {
        whatThereIs();
        whatIsChanged();
        ways();
        hills();
        digging();
        spoiling();
        inTime();
        askedFirst();
        nobodyToCallAt();
        best();
        packingAndSoonest();
        twoRounds();
        strength();
        latest();
        leave();
        mean();
        luck();
        seen();
        fits();
        drift();
        images();
        newSheets();
        cells();
        lowestBits();
        read();
        readAndRefused();
        counts();
        if (wrong > 0) {
            System.exit(1);
        }
    }

    // ---------------------------------------------------------------- helpers

    private static void says(String words) {
        sentence = words;
    }

    private static void due(String call, long got, long want) {
        if (got != want) {
            wrong++;
            System.out.println(sentence + ": " + call + " answered " + got + ", due is " + want);
        }
    }

    private static BasketRound told(String text) {
        BasketRound x = new BasketRound();
        for (int i = 0; i < text.length(); i++) {
            due("feed of " + text, x.feed(text.charAt(i)), i + 1);
        }
        if (x.text() < 0) {
            wrong++;
            System.out.println(sentence + ": not taken: " + text);
        }
        return x;
    }

    /** Five orders, one of each kind, for the one house. */
    private static BasketRound five() {
        return told("road 1;" + FIVE);
    }

    /** Least and most are answered, one below and one above are BAD, and so are the farthest numbers. */
    private static void bounds(String words, int least, int most, Call call) {
        says(words);
        due("with " + least + " refused (1: yes)", call.with(least) == BAD ? 1 : 0, 0);
        due("with " + most + " refused (1: yes)", call.with(most) == BAD ? 1 : 0, 0);
        allBad(words, call, least - 1, most + 1, MIN, MAX);
    }

    private static void allBad(String words, Call call, int... numbers) {
        says(words);
        for (int v : numbers) {
            due("with " + v, call.with(v), BAD);
        }
    }

    private static int base5(int... row) {
        int number = 0;
        for (int o : row) {
            number = number * 5 + o;
        }
        return number;
    }

    // ---------------------------------------------------------------- promises 6 to 8

    private static void whatThereIs() {
        BasketRound none = new BasketRound();
        BasketRound roadOnly = told(SIX);
        BasketRound one = told("up 9;order soda 1 9 9 99;");
        BasketRound x = five();
        bounds("Promise 6: rule(what): BAD", 0, 6, none::rule);
        bounds("Promise 6: rule(what): BAD", 0, 6, x::rule);
        bounds("Promise 7: house(h, ..): HOUSES 1 to 6", 1, 6, h -> roadOnly.house(h, 0));
        bounds("Promise 7: house(h, ..): HOUSES, one", 1, 1, h -> x.house(h, 0));
        bounds("Promise 7: house(.., what)", 0, 1, what -> roadOnly.house(6, what));
        allBad("Promise 7: house(h, ..) where there are none", h -> none.house(h, 0), MIN, -1, 0, 1, 6, 7, MAX);
        bounds("Promise 8: order(o, ..): ORDERS 0 to 4", 0, 4, o -> x.order(o, 0));
        bounds("Promise 8: order(o, ..): ORDERS, one", 0, 0, o -> one.order(o, 0));
        bounds("Promise 8: order(.., what)", 0, 6, what -> x.order(4, what));
        allBad("Promise 8: order(o, ..) where there are none", o -> roadOnly.order(o, 0), MIN, -1, 0, 1, 4, 5, MAX);
        says("Promise 6: all WEIGHTS, HOUSES, ORDERS at their most");
        BasketRound most = told(SIX + "order ice 6 9 9 99;order ice 6 9 9 99;order ice 6 9 9 99;order ice 6 9 9 99;"
            + "order ice 6 9 9 99;");
        due("rule(0)", most.rule(0), 6);
        due("rule(1)", most.rule(1), 5);
        due("rule(6)", most.rule(6), 45);
        says("Terms 2: numbers to the base 5, the first one's figure the highest (as many figures as ORDERS)");
        due("of none", none.rule(4), 0);
        due("of one", one.rule(4), 0);
        due("of two", told("up 1;order ice 1 1 1 1;order ice 1 1 1 1;round 1;").rule(5), 5);
        due("of five, the least", x.rule(4), 1 * 125 + 2 * 25 + 3 * 5 + 4);
        due("of five, the greatest", told("road 1;" + FIVE + "pack 4 3 2 1 0;").rule(4), 4 * 625 + 3 * 125 + 2 * 25 + 5);
        says("Promise 8: how many are PACKED above it (5), at which place it is called at, from 0 (6)");
        BasketRound turned = told("road 1;" + FIVE + "pack 4 3;round 2;");
        int[] above = {2, 3, 4, 1, 0};
        int[] place = {1, 2, 0, 3, 4};
        for (int o = 0; o < 5; o++) {
            due("order(" + o + ", 5)", turned.order(o, 5), above[o]);
            due("order(" + o + ", 6)", turned.order(o, 6), place[o]);
        }
    }

    // ---------------------------------------------------------------- promises 9 to 16

    private static void whatIsChanged() {
        BasketRound none = told(SIX);
        BasketRound x = five();
        bounds("Promise 9: set(what, ..)", 0, 1, what -> x.set(what, 5));
        bounds("Promise 9: PUSH becomes v (0 to 60)", 0, 60, v -> x.set(0, v));
        due("rule(2)", x.rule(2), 60);
        bounds("Promise 9: START becomes v (0 to 60)", 0, 60, v -> x.set(1, v));
        due("rule(3)", x.rule(3), 60);
        due("set(0, 0) of what there was", x.set(0, 0), 60);
        due("rule(3) is another", x.rule(3), 60);
        due("set(1, 7)", x.set(1, 7), 60);
        due("rule(2) is another", x.rule(2), 0);
        bounds("Promise 10: pack(o, ..)", 0, 4, o -> x.pack(o, 0));
        bounds("Promise 10: pack(.., p)", 0, 4, p -> x.pack(0, p));
        bounds("Promise 11: swap(o, ..)", 0, 4, o -> x.swap(o, 0));
        bounds("Promise 11: swap(.., p)", 0, 4, p -> x.swap(0, p));
        bounds("Promise 12: top(o)", 0, 4, x::top);
        bounds("Promise 13: first(o)", 0, 4, x::first);
        bounds("Promise 14: ask(o, ..)", 0, 4, o -> x.ask(o, 3, 1));
        bounds("Promise 14: ask(.., what, ..)", 3, 4, what -> x.ask(0, what, 1));
        bounds("Promise 14: PENNY (0 to 9)", 0, 9, v -> x.ask(4, 3, v));
        due("order(4, 3)", x.order(4, 3), 9);
        bounds("Promise 14: DUE (0 to 99)", 0, 99, v -> x.ask(4, 4, v));
        due("order(4, 4)", x.order(4, 4), 99);
        bounds("Promise 15: turn(o, ..)", 0, 4, o -> x.turn(o, 0));
        bounds("Promise 15: KIND (0 to 4)", 0, 4, kind -> x.turn(4, kind));
        due("order(4, 0)", x.order(4, 0), 4);
        bounds("Promise 16: weigh(o, ..)", 0, 4, o -> x.weigh(o, 1));
        bounds("Promise 16: WEIGHT (1 to 9)", 1, 9, v -> x.weigh(4, v));
        due("order(4, 2)", x.order(4, 2), 9);
        allBad("Promises 10 to 13: where there are no ORDERS", none::top, -1, 0, 1);
        allBad("Promises 10 to 13: where there are no ORDERS", none::first, -1, 0, 1);
        allBad("Promises 10 to 13: where there are no ORDERS", o -> none.pack(o, o), -1, 0, 1);
        allBad("Promises 10 to 13: where there are no ORDERS", o -> none.swap(o, o), -1, 0, 1);
        allBad("Promises 14 to 16: where there are no ORDERS", o -> none.ask(o, 3, 1), -1, 0, 1);
        allBad("Promises 14 to 16: where there are no ORDERS", o -> none.turn(o, 0), -1, 0, 1);
        allBad("Promises 14 to 16: where there are no ORDERS", o -> none.weigh(o, 1), -1, 0, 1);
        placesChanged();
    }

    private static void placesChanged() {
        says("Promise 10: two ORDERS change places in PACKED: the first and the last, one with itself");
        BasketRound x = five();
        due("pack(0, 4)", x.pack(0, 4), base5(4, 1, 2, 3, 0));
        due("pack(0, 4)", x.pack(0, 4), base5(0, 1, 2, 3, 4));
        due("pack(4, 4)", x.pack(4, 4), base5(0, 1, 2, 3, 4));
        due("pack(1, 0)", x.pack(1, 0), base5(1, 0, 2, 3, 4));
        due("pack(1, 2)", x.pack(1, 2), base5(2, 0, 1, 3, 4));
        due("THE ROUND is as it was", x.rule(5), base5(0, 1, 2, 3, 4));
        says("Promise 12: an ORDER comes to the top: from the bottom, from the top");
        due("top(4)", x.top(4), base5(4, 2, 0, 1, 3));
        due("top(4)", x.top(4), base5(4, 2, 0, 1, 3));
        due("top(0)", x.top(0), base5(0, 4, 2, 1, 3));
        due("THE ROUND is as it was", x.rule(5), base5(0, 1, 2, 3, 4));
        says("Promise 11: two ORDERS change places in THE ROUND: the first and the last, one with itself");
        due("swap(4, 0)", x.swap(4, 0), base5(4, 1, 2, 3, 0));
        due("swap(3, 3)", x.swap(3, 3), base5(4, 1, 2, 3, 0));
        due("PACKED is as it was", x.rule(4), base5(0, 4, 2, 1, 3));
        says("Promise 13: an ORDER is called at first: from the end, from the beginning");
        due("first(0)", x.first(0), base5(0, 4, 1, 2, 3));
        due("first(0)", x.first(0), base5(0, 4, 1, 2, 3));
        due("first(2)", x.first(2), base5(2, 0, 4, 1, 3));
        due("PACKED is as it was", x.rule(4), base5(0, 4, 2, 1, 3));
        says("Promises 10 to 13: of one ORDER alone");
        BasketRound one = told("up 1;order ice 1 1 1 1;");
        due("pack(0, 0)", one.pack(0, 0), 0);
        due("swap(0, 0)", one.swap(0, 0), 0);
        due("top(0)", one.top(0), 0);
        due("first(0)", one.first(0), 0);
    }

    // ---------------------------------------------------------------- promises 17 to 23, and Terms 2

    private static void ways() {
        BasketRound x = told(SIX);
        BasketRound none = new BasketRound();
        bounds("Promise 17: HOUSE a (0: THE SHOP)", 0, 6, a -> x.way(a, 0, 0));
        bounds("Promise 17: HOUSE b", 0, 6, b -> x.way(0, b, 0));
        bounds("Promise 17: a WEIGHT (0 to 60)", 0, 60, w -> x.way(0, 6, w));
        says("Promise 17: where there are no HOUSES, THE SHOP alone");
        due("way(0, 0, 60)", none.way(0, 0, 60), 0);
        due("way(0, 1, 0)", none.way(0, 1, 0), BAD);
        due("way(1, 0, 0)", none.way(1, 0, 0), BAD);
        says("Promise 17: from a HOUSE to itself");
        for (int h = 0; h <= 6; h++) {
            due("way(" + h + ", " + h + ", 60)", x.way(h, h, 60), 0);
        }
        says("Terms 2: twice as many where it goes up for him and the WEIGHT is more than PUSH (10)");
        due("way(0, 6, 10)", x.way(0, 6, 10), 24);
        due("way(0, 6, 11)", x.way(0, 6, 11), 24 + 2 + 5);
        due("way(6, 0, 10)", x.way(6, 0, 10), 24);
        due("way(6, 0, 11)", x.way(6, 0, 11), 24 + 3 + 9);
        due("way(1, 2, 11)", x.way(1, 2, 11), 4);
        due("way(2, 1, 11)", x.way(2, 1, 11), 2);
        due("way(2, 3, 11)", x.way(2, 3, 11), 3);
        due("way(3, 2, 11)", x.way(3, 2, 11), 6);
        due("way(3, 4, 60)", x.way(3, 4, 60), 4);
        due("way(4, 3, 60)", x.way(4, 3, 60), 4);
        due("way(2, 5, 11)", x.way(2, 5, 11), 3 + 4 + 10);
        says("Terms 2: more than PUSH, where it is 0, 60");
        x.set(0, 0);
        due("way(0, 6, 0)", x.way(0, 6, 0), 24);
        due("way(0, 6, 1)", x.way(0, 6, 1), 31);
        x.set(0, 60);
        due("way(0, 6, 60)", x.way(0, 6, 60), 24);
        x.set(0, 59);
        due("way(0, 6, 60)", x.way(0, 6, 60), 31);
    }

    private static void hills() {
        says("Terms 2: twice, if the WEIGHT of all that is in the basket is more than PUSH: it grows less by the way");
        // 9 + 2 = 11 to HOUSE 1, then 2 alone to HOUSE 2.
        String shop = "up 3;up 4;order plain 1 9 1 99;order plain 2 2 1 99;";
        int[][] byPush = {{0, 7, 16}, {1, 7, 16}, {2, 7, 12}, {10, 7, 12}, {11, 4, 9}};
        BasketRound x = told(shop);
        for (int[] row : byPush) {
            x.set(0, row[0]);
            due("time(0) by PUSH " + row[0], x.time(0), row[1]);
            due("time(1) by PUSH " + row[0], x.time(1), row[2]);
        }
        says("Terms 2: back to THE SHOP with nothing in the basket: never more than PUSH");
        x = told("down 5;down 6;order plain 2 9 1 99;push 0;");
        due("time(0)", x.time(0), 12);
        due("back() by PUSH 0", x.back(), 23);
        x.set(0, 10);
        due("back() by PUSH 10", x.back(), 23);
        x.set(0, 60);
        due("back() by PUSH 60", x.back(), 23);
        says("Terms 2: uphill towards THE SHOP, with what is left");
        x = told("down 5;down 6;order plain 2 9 1 99;order plain 1 4 1 99;push 3;");
        due("time(1)", x.time(1), 12 + 12 + 1);
        x.set(0, 4);
        due("time(1)", x.time(1), 12 + 6 + 1);
        bounds("Promise 18: time(o)", 0, 4, five()::time);
        allBad("Promise 18: time(o) where there are no ORDERS", told(SIX)::time, MIN, -1, 0, 1, MAX);
        says("Terms 1: START: the minute at which he leaves THE SHOP (0, 60)");
        x = told("road 9;order plain 1 1 1 99;");
        due("time(0) by 0", x.time(0), 10);
        due("back() by 0", x.back(), 19);
        x.set(1, 60);
        due("time(0) by 60", x.time(0), 70);
        due("back() by 60", x.back(), 79);
    }

    private static void digging() {
        says("Terms 2: 1 minute for each ORDER in the basket that is PACKED above it: none, all");
        BasketRound x = told("road 1;" + FIVE);
        int[] times = {2, 3, 4, 6, 7};
        for (int o = 0; o < 5; o++) {
            due("time(" + o + ")", x.time(o), times[o]);
        }
        due("spent(0)", x.spent(0), 0);
        due("spent(1)", x.spent(1), 2);
        due("spent(2)", x.spent(2), 6);
        x = told("road 1;" + FIVE + "round 4 3 2 1 0;");
        // 4 lie above the bottom one, then 3, 2, 1, 0: 1 + 4 + 1, + 3 + 2, + 2 + 1, + 1 + 1, + 1.
        int[] dug = {17, 16, 14, 11, 6};
        for (int o = 0; o < 5; o++) {
            due("time(" + o + ")", x.time(o), dug[o]);
        }
        due("spent(0)", x.spent(0), 10);
        due("back()", x.back(), 18);
        says("Terms 2: what is out of the basket is not dug through");
        x = told("road 1;" + FIVE + "round 0 4;");
        due("time(4)", x.time(4), 2 + 3 + 1);
        says("Terms 2: at the door 1 minute, soda 2");
        x = told("road 1;order plain 1 1 1 99;");
        for (int kind = 0; kind < 5; kind++) {
            x.turn(0, kind);
            due("time(0) of KIND " + kind, x.time(0), kind == 3 ? 3 : 2);
            due("spent(2) of KIND " + kind, x.spent(2), kind == 3 ? 2 : 1);
        }
        bounds("Promise 23: spent(what)", 0, 2, x::spent);
    }

    private static void spoiling() {
        says("Terms 2: SPOILT are eggs, if WEIGHTS PACKED above them are more than 5");
        BasketRound x = told("road 1;order plain 1 3 1 99;order plain 1 2 1 99;order eggs 1 9 1 99;");
        due("by 5", x.spoilt(), 0);
        x.weigh(1, 3);
        due("by 6", x.spoilt(), 4);
        due("pennies() by 6", x.pennies(), 2);
        x.weigh(1, 2);
        due("by 5 again", x.spoilt(), 0);
        due("pennies() by 5", x.pennies(), 3);
        x.weigh(0, 9);
        x.top(2);
        due("on top", x.spoilt(), 0);
        for (int kind : new int[] {0, 2, 3, 4}) {
            x.turn(2, kind);
            x.top(0);
            x.top(1);
            due("under 11, of KIND " + kind, x.spoilt(), 0);
        }
        says("Terms 2: SPOILT is ice, if its TIME is more than 20 minutes behind the START of its round");
        for (int start : new int[] {0, 40, 60}) {
            x = told("road 9;road 9;road 1;order ice 3 1 5 99;start " + start + ";");
            due("at 20 behind " + start, x.spoilt(), 0);
            due("pennies()", x.pennies(), 5);
            x = told("road 9;road 9;road 2;order ice 3 1 5 99;start " + start + ";");
            due("at 21 behind " + start, x.spoilt(), 1);
            due("pennies()", x.pennies(), 0);
            x.turn(0, 0);
            due("at 21, not ice", x.spoilt(), 0);
        }
        says("Promise 20: ORDERS that are SPOILT (bits): all of them, each in its own way; none");
        x = told("road 9;road 9;order paraffin 2 6 1 99;order plain 2 1 1 99;order eggs 2 1 1 99;order ice 2 1 1 99;");
        due("time(3)", x.time(3), 22);
        due("spoilt()", x.spoilt(), 2 | 4 | 8);
        x.first(3);
        due("spoilt(), ice first, dug out at 22", x.spoilt(), 2 | 4 | 8);
        x.top(3);
        due("spoilt(), ice first, on top at 19", x.spoilt(), 2 | 4);
        x.turn(0, 3);
        x.turn(2, 0);
        due("spoilt(), none", x.spoilt(), 0);
        paraffin();
    }

    private static void paraffin() {
        says("Terms 2: SPOILT is any that is PACKED right below paraffin");
        BasketRound x = told("road 1;" + FIVE + "pack 0 1 2 3 4;");
        x.weigh(0, 1);
        due("paraffin at the bottom", x.spoilt(), 0);
        due("on top: " + x.top(4), x.spoilt(), 1 | 2);
        // Eggs (1) lie under 5 + 1; they are whole again if it weighs 4.
        x.weigh(4, 4);
        due("of 4, on top", x.spoilt(), 1);
        for (int kind = 0; kind < 5; kind++) {
            x.turn(0, kind);
            due("right below it, of KIND " + kind, x.spoilt(), kind == 4 ? 1 | 2 : 1);
        }
        says("Terms 2: of one ORDER, paraffin alone");
        due("spoilt()", told("road 1;order paraffin 1 9 9 99;").spoilt(), 0);
        says("Terms 2: SPOILT right below paraffin, though that is out of the basket already");
        x = told("road 1;order paraffin 1 1 1 99;order plain 1 1 1 99;");
        due("spoilt()", x.spoilt(), 2);
        x.swap(0, 1);
        due("spoilt(), called at the other way", x.spoilt(), 2);
    }

    private static void inTime() {
        says("Promise 21: ORDERS of which TIME is more than DUE");
        BasketRound x = told("road 1;" + FIVE);
        int[] times = {2, 3, 4, 6, 7};
        for (int o = 0; o < 5; o++) {
            x.ask(o, 4, times[o]);
            due("late() at DUE, " + o, x.late(), 0);
            x.ask(o, 4, times[o] - 1);
            due("late() a minute behind DUE, " + o, x.late(), 1 << o);
            x.ask(o, 4, 99);
        }
        for (int o = 0; o < 5; o++) {
            x.ask(o, 4, 0);
        }
        due("late() by DUE 0", x.late(), 31);
        due("pennies() by DUE 0", x.pennies(), 0);
        says("Promise 21: by DUE 99, the most");
        x = told("road 9;road 9;road 9;road 9;road 2;order plain 5 1 9 99;start 60;");
        due("time(0)", x.time(0), 99);
        due("late()", x.late(), 0);
        due("pennies()", x.pennies(), 9);
        x.turn(0, 3);
        due("late() at 100", x.late(), 1);
        due("pennies() at 100", x.pennies(), 0);
        says("Promise 22: PENNIES of each that is not SPOILT and of which TIME is no more than DUE");
        // Eggs 1 under 6, ice 2 in time, plain 3 below paraffin, and all of it once more, late.
        x = told("road 1;order plain 1 6 1 2;order eggs 1 1 2 3;order ice 1 1 4 4;order paraffin 1 1 8 5;order plain 1 1 9 6;");
        due("spoilt()", x.spoilt(), 2 | 16);
        due("late()", x.late(), 0);
        due("pennies()", x.pennies(), 1 + 4 + 8);
        x.ask(0, 4, 1);
        x.ask(1, 4, 2);
        due("late()", x.late(), 1 | 2);
        due("pennies()", x.pennies(), 4 + 8);
    }

    private static void askedFirst() {
        says("Promises 18 to 36: what is asked first of all of a shop, or behind what leaves another round");
        // 1 is called at first, and 0 lies on it: 1 at 2 + 1 + 1 = 4, 0 at 5; he is back at 7.
        String shop = "road 2;order paraffin 1 1 4 9;order eggs 1 1 5 9;round 1;";
        String[] names = {"time", "back", "spoilt", "late", "pennies", "dug", "gone", "doors", "strength", "latest", "packing",
            "soonest", "mean", "luck", "fits", "drift"};
        int[] want = {5, 7, 2, 0, 4, 1, 4, 2, 0, 4, 6, 6, 4, 0, 2, 6};
        for (int i = 0; i < names.length; i++) {
            due(names[i] + ", first", asked(told(shop), i), want[i]);
            BasketRound x = told(shop);
            x.two(1, 0);
            due(names[i] + " behind two()", asked(x, i), want[i]);
            x.best(0);
            due(names[i] + " behind best()", asked(x, i), want[i]);
            x.leave(0);
            due(names[i] + " behind leave()", asked(x, i), want[i]);
        }
    }

    private static long asked(BasketRound x, int i) {
        switch (i) {
            case 0: return x.time(0);
            case 1: return x.back();
            case 2: return x.spoilt();
            case 3: return x.late();
            case 4: return x.pennies();
            case 5: return x.spent(0);
            case 6: return x.spent(1);
            case 7: return x.spent(2);
            case 8: return x.strength();
            case 9: return x.latest();
            case 10: return x.packing(1);
            case 11: return x.soonest(0);
            case 12: return x.mean(0, 0);
            case 13: return x.luck(0, 5, 0);
            case 14: return x.fits(0);
            default: return x.drift(0, 1, 1);
        }
    }

    private static void nobodyToCallAt() {
        says("Terms 2: THE ROUND where there are no ORDERS: he is back at START");
        for (BasketRound x : new BasketRound[] {new BasketRound(), told(SIX)}) {
            for (int start : new int[] {0, 60}) {
                x.set(1, start);
                due("back()", x.back(), start);
                due("best(1)", x.best(1), start);
                due("packing(1)", x.packing(1), start);
                due("soonest(0)", x.soonest(0), start);
                due("two(0, 1)", x.two(0, 1), start);
                due("split(2)", x.split(2), start);
            }
            due("spoilt()", x.spoilt(), 0);
            due("late()", x.late(), 0);
            due("pennies()", x.pennies(), 0);
            for (int what = 0; what < 3; what++) {
                due("spent(" + what + ")", x.spent(what), 0);
            }
            due("best(0)", x.best(0), 0);
            due("best(2)", x.best(2), 0);
            due("best(3)", x.best(3), 0);
            due("packing(0)", x.packing(0), 0);
            due("packing(2)", x.packing(2), 0);
            due("soonest(1)", x.soonest(1), 0);
            due("two(0, 0)", x.two(0, 0), 0);
            due("split(0)", x.split(0), 0);
            due("split(1)", x.split(1), 0);
            due("strength()", x.strength(), 0);
            due("latest()", x.latest(), 60);
            due("leave(0)", x.leave(0), NONE);
            due("leave(1)", x.leave(1), NONE);
        }
    }

    // ---------------------------------------------------------------- promises 24 to 31

    private static void best() {
        BasketRound none = new BasketRound();
        bounds("Promise 24: best(what)", 0, 3, five()::best);
        bounds("Promise 24: best(what), no ORDERS", 0, 3, none::best);
        says("Promise 24: of several the first by numbers (ROUND, then PACKED)");
        // All alike, with no PENNY: any round packed as it is called at is soonest, the first one is 01234.
        BasketRound x = told("road 1;order plain 1 1 0 0;order plain 1 1 0 0;order plain 1 1 0 0;order plain 1 1 0 0;"
            + "order plain 1 1 0 0;pack 4 3 2 1 0;round 3 1;");
        due("best(0)", x.best(0), 0);
        due("best(1)", x.best(1), 7);
        due("best(2)", x.best(2), base5(0, 1, 2, 3, 4));
        due("best(3)", x.best(3), base5(0, 1, 2, 3, 4));
        says("Promise 24: PENNIES are most, ahead of soonest: the last by numbers");
        // DUE so that the one round alone pays all: 4 at 2, 3 at 3, 2 at 4, 1 at 5, 0 at 6.
        x = told("road 1;order plain 1 1 9 6;order plain 1 1 9 5;order plain 1 1 9 4;order plain 1 1 9 3;order plain 1 1 9 2;");
        due("best(0)", x.best(0), 45);
        due("best(1)", x.best(1), 7);
        due("best(2)", x.best(2), base5(4, 3, 2, 1, 0));
        due("best(3)", x.best(3), base5(4, 3, 2, 1, 0));
        due("THE ROUND is as it was", x.rule(5), base5(0, 1, 2, 3, 4));
        due("PACKED is as it was", x.rule(4), base5(0, 1, 2, 3, 4));
        says("Promise 24: PENNIES are most though he is back later: he digs for it");
        // 0 must be called at first to be in time, and eggs must lie on it: he digs a minute, and is at 0 by 3.
        x = told("road 1;road 1;order plain 1 6 1 3;order eggs 2 1 1 99;push 60;");
        due("best(0)", x.best(0), 2);
        due("best(1)", x.best(1), 7);
        due("best(2)", x.best(2), base5(0, 1));
        due("best(3)", x.best(3), base5(1, 0));
        says("Promise 24: a minute less: one or the other is lost, so he does not dig");
        x.ask(0, 4, 2);
        due("best(0)", x.best(0), 1);
        due("best(1)", x.best(1), 6);
        due("best(2)", x.best(2), base5(0, 1));
        due("best(3)", x.best(3), base5(0, 1));
        says("Promise 24: of one ORDER");
        x = told("up 9;order plain 1 9 9 10;push 9;");
        due("best(0)", x.best(0), 9);
        due("best(1)", x.best(1), 19);
        due("best(2)", x.best(2), 0);
        x.set(0, 8);
        due("best(0)", x.best(0), 0);
        due("best(1)", x.best(1), 28);
    }

    private static void packingAndSoonest() {
        bounds("Promise 25: packing(what)", 0, 2, five()::packing);
        bounds("Promise 26: soonest(what)", 0, 1, five()::soonest);
        says("Promise 25: THE ROUND as it is; PENNIES most, then soonest, then the first by numbers");
        BasketRound x = told("road 1;order plain 1 1 1 9;order plain 1 1 1 9;order plain 1 1 1 9;round 2 1 0;");
        due("packing(0)", x.packing(0), 3);
        due("packing(1)", x.packing(1), 5);
        due("packing(2)", x.packing(2), base5(2, 1, 0));
        due("PACKED is as it was", x.rule(4), base5(0, 1, 2));
        says("Promise 25: of several the first by numbers: the last one's place does not matter");
        // Called at 0, then 1: packed 0 1 nothing is dug; the paraffin on top would spoil, so it lies below.
        x = told("road 1;order paraffin 1 1 1 99;order plain 1 1 9 99;");
        due("packing(0)", x.packing(0), 10);
        due("packing(1)", x.packing(1), 5);
        due("packing(2)", x.packing(2), base5(1, 0));
        x.ask(1, 3, 0);
        due("packing(0)", x.packing(0), 1);
        due("packing(1)", x.packing(1), 4);
        due("packing(2)", x.packing(2), base5(0, 1));
        says("Promise 26: THE ROUND by which he is back soonest, PACKED as it is, the first by numbers");
        x = told("road 1;order plain 1 1 9 1;order plain 1 1 9 1;order plain 1 1 9 1;pack 2 1 0;");
        due("soonest(0)", x.soonest(0), 5);
        due("soonest(1)", x.soonest(1), base5(2, 1, 0));
        due("THE ROUND is as it was", x.rule(5), base5(0, 1, 2));
        says("Promise 26: of several the first by numbers");
        // By order he goes 1 + 1 + 1 + 1 + 2; 0 2 1 and 1 0 2 are 2 shorter, and he digs 1.
        x = told("road 1;road 1;order plain 2 1 0 0;order plain 1 1 0 0;order plain 2 1 0 0;round 2 1 0;");
        due("soonest(0)", x.soonest(0), 4 + 1 + 3);
        due("soonest(1)", x.soonest(1), base5(0, 2, 1));
    }

    private static void twoRounds() {
        BasketRound x = five();
        BasketRound none = new BasketRound();
        bounds("Promise 27: a set (bits) of 5", 0, 31, set -> x.two(set, 0));
        bounds("Promise 27: a set (bits) of 1", 0, 1, set -> told("up 1;order ice 1 1 1 1;").two(set, 0));
        bounds("Promise 27: a set (bits) of none", 0, 0, set -> none.two(set, 0));
        allBad("Promise 27: a set with others in it", set -> x.two(set, 0), 32, 33, 63, 64, MIN | 1);
        bounds("Promise 27: two(.., what)", 0, 1, what -> x.two(1, what));
        bounds("Promise 28: split(what)", 0, 2, x::split);
        bounds("Promise 28: split(what), no ORDERS", 0, 2, none::split);
        says("Terms 2: TWO ROUNDS by none, by all: one round");
        for (int set : new int[] {0, 31}) {
            due("two(" + set + ", 0)", x.two(set, 0), x.pennies());
            due("two(" + set + ", 1)", x.two(set, 1), x.back());
        }
        says("Terms 2: the START of the second one is when he is back; the ice's 20 minutes are of its own round");
        BasketRound y = told("road 9;road 9;road 1;order plain 3 1 1 99;order ice 3 1 7 99;push 60;start 10;");
        due("spoilt() in one", y.spoilt(), 2);
        // First 10 + 19 + 1 + 19 = 49, then 49 + 19 + 1 = 69, 88 when he is back.
        due("two(1, 0)", y.two(1, 0), 8);
        due("two(1, 1)", y.two(1, 1), 88);
        y.ask(1, 4, 69);
        due("two(1, 0), DUE then", y.two(1, 0), 8);
        y.ask(1, 4, 68);
        due("two(1, 0), DUE a minute ahead", y.two(1, 0), 1);
        says("Terms 2: PACKED as it is without the others: eggs without what lies on them, plain right below paraffin");
        y = told("road 1;order plain 1 6 1 99;order eggs 1 1 2 99;order paraffin 1 1 4 99;order plain 1 1 8 99;");
        due("two(0, 0)", y.two(0, 0), 1 + 4);
        due("two(1, 0)", y.two(1, 0), 1 + 2 + 4);
        due("two(4, 0)", y.two(4, 0), 1 + 4 + 8);
        due("two(5, 0)", y.two(5, 0), 1 + 4 + 2 + 8);
        // Without eggs, paraffin lies on the last one still; with eggs between them it does not.
        y.pack(1, 2);
        y.pack(1, 3);
        due("PACKED", y.rule(4), base5(0, 2, 3, 1));
        due("two(2, 0)", y.two(2, 0), 2 + 1 + 4);
        due("two(8, 0)", y.two(8, 0), 8 + 1 + 4);
        splits();
    }

    private static void splits() {
        says("Promise 28: the least by bits; none, all: one round");
        BasketRound x = told("road 1;order plain 1 1 1 99;order plain 1 1 1 99;");
        due("split(0)", x.split(0), 0);
        due("split(1)", x.split(1), 2);
        due("split(2)", x.split(2), 4);
        says("Promise 28: PENNIES most ahead of soonest, of sets that are alike the least");
        // Paraffin spoils what is right below it: apart they are whole; 1 first or 2 first, it is the same.
        x = told("road 1;order paraffin 1 1 1 99;order plain 1 1 1 99;");
        due("split(0)", x.split(0), 1);
        due("split(1)", x.split(1), 2);
        due("split(2)", x.split(2), 6);
        x.ask(1, 4, 2);
        due("split(0), the second due at once", x.split(0), 2);
        due("split(1)", x.split(1), 2);
        x.ask(0, 4, 4);
        due("split(0), no way to have both: one round is sooner", x.split(0), 0);
        due("split(1)", x.split(1), 1);
        due("split(2)", x.split(2), 4);
    }

    private static void strength() {
        says("Promise 29: the least PUSH (0 to 60): 0");
        due("strength()", told("road 9;order plain 1 9 1 10;").strength(), 0);
        says("Promise 29: as much as all weighs: 45");
        BasketRound x = told("up 9;order plain 1 9 1 14;order plain 1 9 1 14;order plain 1 9 1 14;order plain 1 9 1 14;"
            + "order plain 1 9 1 14;push 3;");
        due("strength()", x.strength(), 45);
        due("PUSH is as it was", x.rule(2), 3);
        says("Promise 29: no ORDER is late: at DUE it is not, a minute behind it is");
        x.ask(4, 4, 13);
        due("strength()", x.strength(), NONE);
        says("Promise 29: one less where the weight is one less");
        x.ask(4, 4, 14);
        x.weigh(0, 8);
        due("strength()", x.strength(), 44);
        says("Promise 29: PACKED as it is: he digs a minute for what is called at first");
        due("strength(), DUE then", told("up 2;order plain 1 1 1 9;order plain 1 1 1 4;round 1;").strength(), 2);
        due("strength(), a minute ahead", told("up 2;order plain 1 1 1 9;order plain 1 1 1 3;round 1;").strength(), NONE);
        says("Promise 29: NONE though PUSH is 60");
        x = told("road 9;order plain 1 1 0 9;push 60;");
        due("strength()", x.strength(), NONE);
    }

    private static void latest() {
        says("Promise 30: the latest START (0 to 60): 60");
        BasketRound x = told("road 9;order plain 1 1 1 70;start 5;");
        due("latest()", x.latest(), 60);
        due("START is as it was", x.rule(3), 5);
        x.ask(0, 4, 99);
        due("latest() by DUE 99", x.latest(), 60);
        says("Promise 30: 59");
        x.ask(0, 4, 69);
        due("latest()", x.latest(), 59);
        says("Promise 30: 0");
        x.ask(0, 4, 10);
        due("latest()", x.latest(), 0);
        says("Promise 30: NONE: by none");
        x.ask(0, 4, 9);
        due("latest()", x.latest(), NONE);
        says("Promise 30: every ORDER: by that which is late first");
        x = told("road 1;order plain 1 1 1 50;order plain 1 1 1 40;");
        due("latest()", x.latest(), 37);
    }

    private static void leave() {
        bounds("Promise 31: leave(what)", 0, 1, five()::leave);
        says("Promise 31: BAD ahead of NONE");
        due("leave(2)", new BasketRound().leave(2), BAD);
        due("leave(-1)", new BasketRound().leave(-1), BAD);
        says("Promise 31: NONE: one ORDER alone leaves no others");
        BasketRound x = told("road 1;order plain 1 1 0 0;");
        due("leave(0)", x.leave(0), NONE);
        due("leave(1)", x.leave(1), NONE);
        says("Promise 31: more than with it: as many are not more");
        x = told("road 1;order plain 1 1 0 99;order plain 1 1 4 3;");
        due("leave(0)", x.leave(0), NONE);
        x.ask(1, 4, 2);
        due("leave(0), late by a minute", x.leave(0), 0);
        due("leave(1), late by a minute", x.leave(1), 4);
        says("Promise 31: as if it were not there: nor the house's way, nor its weight, nor its place in the basket");
        x = told("up 4;up 5;order plain 2 9 0 99;order plain 1 9 7 5;push 9;");
        due("time(1)", x.time(1), 18 + 1 + 5 + 1);
        due("leave(0)", x.leave(0), 0);
        due("leave(1)", x.leave(1), 7);
        x.ask(1, 4, 4);
        due("leave(0), late all the same", x.leave(0), NONE);
        says("Promise 31: of several the first");
        x = told("road 1;order plain 1 1 2 99;order plain 1 1 2 99;order plain 1 1 2 99;order plain 1 1 2 99;"
            + "order plain 1 1 9 5;");
        due("leave(0)", x.leave(0), 0);
        due("leave(1)", x.leave(1), 6 + 9);
        x.ask(2, 3, 1);
        x.ask(3, 3, 1);
        due("leave(0), those that give less: the first of them", x.leave(0), 2);
        due("leave(1)", x.leave(1), 2 + 2 + 1 + 9);
        due("THE ROUND is as it was", x.rule(5), base5(0, 1, 2, 3, 4));
    }

    // ---------------------------------------------------------------- promises 32 and 33

    private static void fraction(String call, long top, long below, long wantTop, long wantBelow) {
        due(call + ", 0", top, wantTop);
        due(call + ", 1", below, wantBelow);
    }

    private static void mean() {
        BasketRound x = told("road 1;order plain 1 1 9 99;order plain 1 1 9 99;order plain 1 1 9 99;order plain 1 1 9 99;"
            + "order plain 1 1 9 99;");
        bounds("Promise 32: v out of ten (0 to 10)", 0, 10, v -> (int) x.mean(v, 0));
        bounds("Promise 32: mean(.., what)", 0, 1, what -> (int) x.mean(3, what));
        bounds("Promise 32: mean(.., what), no ORDERS", 0, 1, what -> (int) new BasketRound().mean(3, what));
        says("Terms: fractions are in lowest terms, the denominator above 0 (0 is 0 by 1)");
        fraction("mean(0)", x.mean(0, 0), x.mean(0, 1), 45, 1);
        fraction("mean(1)", x.mean(1, 0), x.mean(1, 1), 81, 2);
        fraction("mean(2)", x.mean(2, 0), x.mean(2, 1), 36, 1);
        fraction("mean(9)", x.mean(9, 0), x.mean(9, 1), 9, 2);
        fraction("mean(10)", x.mean(10, 0), x.mean(10, 1), 0, 1);
        BasketRound none = new BasketRound();
        fraction("mean(0) of none", none.mean(0, 0), none.mean(0, 1), 0, 1);
        fraction("mean(3) of none", none.mean(3, 0), none.mean(3, 1), 0, 1);
        says("Promise 32: PENNIES that are not had anyway are not lost once more");
        x.ask(4, 4, 0);
        fraction("mean(3)", x.mean(3, 0), x.mean(3, 1), 126, 5);
        x.ask(3, 3, 0);
        fraction("mean(3)", x.mean(3, 0), x.mean(3, 1), 189, 10);
    }

    private static void luck() {
        BasketRound x = told("road 1;order plain 1 1 9 99;order plain 1 1 9 99;order plain 1 1 9 99;order plain 1 1 9 99;"
            + "order plain 1 1 9 99;");
        BasketRound none = new BasketRound();
        bounds("Promise 33: v out of ten (0 to 10)", 0, 10, v -> (int) x.luck(v, 1, 0));
        bounds("Promise 33: k (0 to 45)", 0, 45, k -> (int) x.luck(1, k, 0));
        bounds("Promise 33: k (0 to 45), no ORDERS", 0, 45, k -> (int) none.luck(1, k, 0));
        bounds("Promise 33: luck(.., what)", 0, 1, what -> (int) x.luck(1, 1, what));
        says("Promise 33: that PENNIES are k or more: 45, the most; 36 and less by one door");
        fraction("luck(1, 45)", x.luck(1, 45, 0), x.luck(1, 45, 1), 59049, 100000);
        fraction("luck(5, 45)", x.luck(5, 45, 0), x.luck(5, 45, 1), 1, 32);
        fraction("luck(5, 37)", x.luck(5, 37, 0), x.luck(5, 37, 1), 1, 32);
        fraction("luck(5, 36)", x.luck(5, 36, 0), x.luck(5, 36, 1), 3, 16);
        fraction("luck(5, 1)", x.luck(5, 1, 0), x.luck(5, 1, 1), 31, 32);
        fraction("luck(5, 9)", x.luck(5, 9, 0), x.luck(5, 9, 1), 31, 32);
        fraction("luck(5, 10)", x.luck(5, 10, 0), x.luck(5, 10, 1), 13, 16);
        fraction("luck(9, 1)", x.luck(9, 1, 0), x.luck(9, 1, 1), 40951, 100000);
        says("Promise 33: 0 or more is sure, 0 is 0 by 1");
        for (int v : new int[] {0, 1, 9, 10}) {
            fraction("luck(" + v + ", 0)", x.luck(v, 0, 0), x.luck(v, 0, 1), 1, 1);
            fraction("luck(" + v + ", 0) of none", none.luck(v, 0, 0), none.luck(v, 0, 1), 1, 1);
            fraction("luck(" + v + ", 1) of none", none.luck(v, 1, 0), none.luck(v, 1, 1), 0, 1);
        }
        fraction("luck(0, 45)", x.luck(0, 45, 0), x.luck(0, 45, 1), 1, 1);
        fraction("luck(10, 1)", x.luck(10, 1, 0), x.luck(10, 1, 1), 0, 1);
        x.ask(0, 3, 8);
        fraction("luck(0, 44)", x.luck(0, 44, 0), x.luck(0, 44, 1), 1, 1);
        fraction("luck(0, 45)", x.luck(0, 45, 0), x.luck(0, 45, 1), 0, 1);
        says("Promise 33: what is late or has no PENNY changes no odds");
        x.ask(0, 3, 0);
        x.ask(1, 4, 0);
        fraction("luck(5, 27)", x.luck(5, 27, 0), x.luck(5, 27, 1), 1, 8);
        fraction("luck(5, 28)", x.luck(5, 28, 0), x.luck(5, 28, 1), 0, 1);
    }

    // ---------------------------------------------------------------- promises 34 to 37

    private static void seen() {
        BasketRound x = five();
        bounds("Promise 34: see(o, ..)", 0, 4, o -> x.see(o, 0));
        due("count(0)", x.count(0), 2);
        bounds("Promise 34: a TIME (0 to 199)", 0, 199, time -> x.see(0, time));
        due("count(0)", x.count(0), 4);
        allBad("Promise 34: see(o, ..) where there are no ORDERS", o -> told(SIX).see(o, 0), -1, 0, 1);
        says("Promise 34: FULL: more than 6");
        due("the 5th", x.see(1, 1), 5);
        due("the 6th", x.see(1, 1), 6);
        due("the 7th", x.see(1, 1), FULL);
        due("count(0)", x.count(0), 6);
        says("Promise 34: FULL changes nothing: the six are as they were");
        BasketRound y = five();
        for (int i = 0; i < 6; i++) {
            due("see(0, 2)", y.see(0, 2), i + 1);
        }
        due("see(0, 3)", y.see(0, 3), FULL);
        due("fits(0): ORDER 0 first", y.fits(0), 24);
        due("fits(2): ORDER 0 first", y.fits(2), 1);
        says("Terms: the first that fits: BAD ahead of FULL");
        due("see(5, 1)", x.see(5, 1), BAD);
        due("see(-1, 1)", x.see(-1, 1), BAD);
        due("see(0, 200)", x.see(0, 200), BAD);
        due("see(0, -1)", x.see(0, -1), BAD);
        allBad("Promise 35: forget(n): fewer than 0, more than there are", x::forget, MIN, -1, 7, 8, MAX);
        says("Promise 35: SEEN are the first n alone: how many there were");
        due("forget(6)", x.forget(6), 6);
        due("forget(5)", x.forget(5), 6);
        due("forget(6)", x.forget(6), BAD);
        due("see(0, 0)", x.see(0, 0), 6);
        due("see(0, 0)", x.see(0, 0), FULL);
        due("forget(0)", x.forget(0), 6);
        due("forget(0)", x.forget(0), 0);
        bounds("Promise 35: of none", 0, 0, x::forget);
        due("count(0)", x.count(0), 0);
        says("Promise 35: the first ones stay, the last ones go");
        x.see(0, 2);
        x.see(0, 3);
        due("fits(0) of two that can not be", x.fits(0), 0);
        due("forget(1)", x.forget(1), 2);
        due("fits(2): ORDER 0 at 2", x.fits(2), 1);
    }

    private static void fits() {
        BasketRound x = told("road 1;order plain 1 1 1 99;order plain 1 1 1 99;order plain 1 1 1 99;");
        bounds("Promise 36: fits(what)", 0, 2, x::fits);
        says("Promise 36: nothing SEEN: all ROUNDS fit");
        due("fits(0)", x.fits(0), 6);
        due("fits(1)", x.fits(1), base5(0, 1, 2));
        due("fits(2)", x.fits(2), 7);
        due("fits(0) of five", five().fits(0), 120);
        due("fits(2) of five", five().fits(2), 31);
        says("Promise 36: nothing SEEN, no ORDERS: one ROUND of none");
        BasketRound none = new BasketRound();
        due("fits(0)", none.fits(0), 1);
        due("fits(1)", none.fits(1), 0);
        due("fits(2)", none.fits(2), 0);
        says("Promise 36: two ROUNDS fit, both with ORDER 2 first");
        // 2 (under two) at 1 + 2 + 1 = 4, then 1 (under 0) at 6 and 0 at 7, or 0 at 5 and 1 at 6.
        x.see(2, 4);
        x.see(1, 6);
        due("fits(0)", x.fits(0), 2);
        due("fits(1)", x.fits(1), base5(2, 0, 1));
        due("fits(2)", x.fits(2), 4);
        says("Promise 36: one ROUND alone fits, the last by numbers");
        x.see(0, 7);
        due("fits(0)", x.fits(0), 1);
        due("fits(1)", x.fits(1), base5(2, 1, 0));
        due("fits(2)", x.fits(2), 4);
        x.see(0, 7);
        x.see(2, 4);
        due("fits(0), the same once more", x.fits(0), 1);
        says("Promise 36: none: 0; NONE (1); 0");
        due("see(0, 8): the 6th", x.see(0, 8), 6);
        due("fits(0)", x.fits(0), 0);
        due("fits(1)", x.fits(1), NONE);
        due("fits(2)", x.fits(2), 0);
        due("fits(3)", x.fits(3), BAD);
        says("Promise 36: SEEN 0, 199 are TIMES too");
        x.forget(0);
        x.see(0, 0);
        due("fits(0)", x.fits(0), 0);
        x = told("down 9;down 9;down 9;down 9;down 9;down 9;order plain 6 9 1 1;order plain 1 9 1 1;push 8;start 60;");
        // 0 first: 60 + 54 + 1 = 115; then uphill with 9: 90, 1 at the door: 206. 1 first: 60 + 9 + 1 + 1 = 71, then 45.
        due("time(1)", x.time(1), 206);
        x.set(1, 53);
        due("time(1)", x.time(1), 199);
        x.see(1, 199);
        due("fits(0)", x.fits(0), 1);
        due("fits(1)", x.fits(1), base5(0, 1));
    }

    private static void drift() {
        BasketRound x = five();
        bounds("Promise 37: n times (1 to 60)", 1, 60, n -> x.drift(7, n, 0));
        bounds("Promise 37: drift(.., what)", 0, 1, what -> x.drift(7, 1, what));
        says("Promise 37: STATE: there are no ORDERS; BAD ahead of it");
        BasketRound none = told(SIX);
        due("drift(0, 1, 0)", none.drift(0, 1, 0), STATE);
        due("drift(0, 60, 1)", none.drift(0, 60, 1), STATE);
        due("drift(0, 0, 0)", none.drift(0, 0, 0), BAD);
        due("drift(0, 61, 0)", none.drift(0, 61, 0), BAD);
        due("drift(0, 1, 2)", none.drift(0, 1, 2), BAD);
        due("drift(0, 1, -1)", none.drift(0, 1, -1), BAD);
        says("Promise 37: the seed wraps around; bits 16 to 30 of it");
        String shop = "up 3;down 2;order plain 1 5 1 9;order soda 2 4 2 14;order ice 1 3 4 18;order eggs 2 2 3 30;"
            + "order paraffin 1 6 8 25;pack 3 1;";
        for (int seed : new int[] {0, 1, -1, 2, 1000003, -12345, 65536, 1 << 30, MIN, MIN + 1, MAX, MAX - 1}) {
            for (int n : new int[] {1, 2, 5, 59, 60}) {
                long[] want = drifted(told(shop), seed, n);
                BasketRound y = told(shop);
                due("drift(" + seed + ", " + n + ", 0)", y.drift(seed, n, 0), want[0]);
                due("drift(" + seed + ", " + n + ", 1)", y.drift(seed, n, 1), want[1]);
                due("THE ROUND is as it was", y.rule(5), base5(0, 1, 2, 3, 4));
            }
        }
        says("Promise 37: of one ORDER, by itself alone");
        BasketRound one = told("road 4;order plain 1 1 6 5;");
        due("drift(MIN, 60, 0)", one.drift(MIN, 60, 0), 6);
        due("drift(MAX, 1, 1)", one.drift(MAX, 1, 1), 9);
        says("Promise 37: of these ROUNDS: THE ROUND as it is at first is none of them");
        // Seed 0 comes to 12345, so ORDER 0 comes first; it was second, and 1 is in time as the first alone.
        BasketRound y = told("road 1;order plain 1 1 0 0;order plain 1 1 5 2;round 1;pack 1;");
        due("pennies()", y.pennies(), 5);
        due("drift(0, 1, 0)", y.drift(0, 1, 0), 0);
        due("back()", y.back(), 4);
        due("drift(0, 1, 1)", y.drift(0, 1, 1), 5);
    }

    /** By first() on an object of its own, and numbers that do not wrap by themselves. */
    private static long[] drifted(BasketRound x, int seed, int n) {
        BigInteger whole = BigInteger.ONE.shiftLeft(32);
        BigInteger s = BigInteger.valueOf(seed).mod(whole);
        long most = -1;
        long least = Long.MAX_VALUE;
        for (int i = 0; i < n; i++) {
            s = s.multiply(BigInteger.valueOf(1103515245)).add(BigInteger.valueOf(12345)).mod(whole);
            int bits = s.shiftRight(16).mod(BigInteger.ONE.shiftLeft(15)).intValue();
            x.first(bits % 5);
            most = Math.max(most, x.pennies());
            least = Math.min(least, x.back());
        }
        return new long[] {most, least};
    }

    // ---------------------------------------------------------------- promises 38 and 39

    private static void images() {
        BasketRound x = five();
        bounds("Promise 38: IMAGE k (0, 1)", 0, 1, x::keep);
        bounds("Promise 39: IMAGE k (0, 1)", 0, 1, x::undo);
        says("Promise 38: whether there was one (1, 0)");
        BasketRound y = told("road 2;order eggs 1 2 3 40;order plain 1 3 4 50;push 5;start 6;pack 1;round 1;");
        due("undo(0) of none", y.undo(0), STATE);
        due("undo(1) of none", y.undo(1), STATE);
        due("undo(2) of none", y.undo(2), BAD);
        due("undo(-1) of none", y.undo(-1), BAD);
        due("keep(1)", y.keep(1), 0);
        due("undo(0) of none, there being the other", y.undo(0), STATE);
        due("count(1)", y.count(1), 1);
        due("keep(1)", y.keep(1), 1);
        due("count(1)", y.count(1), 1);
        says("Promise 39: all is as IMAGE k: every ORDER's figures, PACKED, THE ROUND, PUSH, START");
        changeAll(y);
        due("keep(0)", y.keep(0), 0);
        due("count(1)", y.count(1), 2);
        due("undo(1)", y.undo(1), 6);
        same(y, new int[][] {{1, 1, 2, 3, 40, 1, 1}, {0, 1, 3, 4, 50, 0, 0}}, new int[] {1, 2, 5, 6, 5, 5, 5});
        due("undo(0)", y.undo(0), 60);
        same(y, new int[][] {{4, 1, 9, 9, 99, 0, 0}, {2, 1, 1, 0, 0, 1, 1}}, new int[] {1, 2, 60, 60, 1, 1, 10});
        says("Promise 39: what is changed behind undo() leaves the IMAGE alone");
        due("undo(1)", y.undo(1), 6);
        changeAll(y);
        due("undo(1)", y.undo(1), 6);
        same(y, new int[][] {{1, 1, 2, 3, 40, 1, 1}, {0, 1, 3, 4, 50, 0, 0}}, new int[] {1, 2, 5, 6, 5, 5, 5});
        says("Promise 38: an IMAGE is told anew by keep()");
        y.set(1, 33);
        due("keep(1)", y.keep(1), 1);
        y.set(1, 0);
        due("undo(1)", y.undo(1), 33);
        says("Promise 39: what is SEEN, the SHEETS, THE TAPE are no part of an IMAGE");
        y.see(0, 1);
        y.sheet(0, 1, 9);
        y.feed('u');
        y.undo(0);
        due("count(0)", y.count(0), 1);
        due("count(1)", y.count(1), 2);
        due("count(2)", y.count(2), 1);
        due("count(3)", y.count(3), 9);
        says("Promises 38, 39: an IMAGE of no ORDERS");
        BasketRound none = new BasketRound();
        due("keep(0)", none.keep(0), 0);
        none.set(1, 9);
        due("undo(0)", none.undo(0), 0);
        due("rule(3)", none.rule(3), 0);
    }

    private static void changeAll(BasketRound y) {
        y.set(0, 60);
        y.set(1, 60);
        y.swap(0, 1);
        y.pack(0, 1);
        y.turn(0, 4);
        y.weigh(0, 9);
        y.ask(0, 3, 9);
        y.ask(0, 4, 99);
        y.turn(1, 2);
        y.weigh(1, 1);
        y.ask(1, 3, 0);
        y.ask(1, 4, 0);
    }

    private static void same(BasketRound y, int[][] orders, int[] rules) {
        for (int o = 0; o < orders.length; o++) {
            for (int what = 0; what < 7; what++) {
                due("order(" + o + ", " + what + ")", y.order(o, what), orders[o][what]);
            }
        }
        for (int what = 0; what < 7; what++) {
            due("rule(" + what + ")", y.rule(what), rules[what]);
        }
    }

    // ---------------------------------------------------------------- promises 40 to 43

    private static void newSheets() {
        BasketRound x = five();
        bounds("Promise 40: SHEETS 0 to 3", 0, 3, k -> x.sheet(k, 0, 1));
        bounds("Promise 40: lanes 0 to 2", 0, 2, lane -> x.sheet(0, lane, 1));
        says("Promise 40: 0 to 40 CELLS; BAD: also n above 40; -10 - 4: SIZE (below 0)");
        due("sheet(0, 0, 0)", x.sheet(0, 0, 0), 1);
        due("count(3)", x.count(3), 0);
        due("sheet(0, 0, 40)", x.sheet(0, 0, 40), 1);
        due("count(3)", x.count(3), 40);
        due("sheet(0, 0, 41)", x.sheet(0, 0, 41), BAD);
        due("sheet(0, 0, MAX)", x.sheet(0, 0, MAX), BAD);
        due("sheet(0, 0, -1)", x.sheet(0, 0, -1), -14);
        due("sheet(0, 0, MIN)", x.sheet(0, 0, MIN), -14);
        due("count(3)", x.count(3), 40);
        says("Terms: the first that fits: BAD ahead of SIZE");
        due("sheet(4, 0, -1)", x.sheet(4, 0, -1), BAD);
        due("sheet(-1, 0, -1)", x.sheet(-1, 0, -1), BAD);
        due("sheet(0, 3, -1)", x.sheet(0, 3, -1), BAD);
        due("sheet(0, -1, -1)", x.sheet(0, -1, -1), BAD);
        says("Terms 2: SHEETS are nothing at first, and stay so where sheet() is refused");
        BasketRound y = five();
        due("sheet(0, 0, -1)", y.sheet(0, 0, -1), -14);
        due("sheet(0, 0, 41)", y.sheet(0, 0, 41), BAD);
        due("sheet(0, 3, 4)", y.sheet(0, 3, 4), BAD);
        due("count(3)", y.count(3), NONE);
        due("sheet(1, 0, 4)", y.sheet(1, 0, 4), 1);
        due("count(3): SHEET 0", y.count(3), NONE);
        says("Promise 40: a new row of CELLS 0, whatever there was");
        y.sheet(0, 2, 4);
        y.lay(0, 0, 1);
        y.lay(0, 1, 2);
        due("sheet(0, 2, 2)", y.sheet(0, 2, 2), 1);
        due("lay(0, 2, 1): it is shorter", y.lay(0, 2, 1), -12);
        due("sheet(0, 2, 4)", y.sheet(0, 2, 4), 1);
        due("read(0, 2, 0, 2): 0 with 0", y.read(0, 2, 0, 2), 2);
        due("rule(5)", y.rule(5), base5(0, 1, 2, 3, 4));
    }

    private static void cells() {
        BasketRound x = five();
        bounds("Promise 41: BAD: k", 0, 3, k -> x.lay(k, 0, 0));
        says("Promise 41: NULL, whatever the CELL is");
        for (int i : new int[] {MIN, -1, 0, 39, 40, MAX}) {
            due("lay(3, " + i + ", 0)", x.lay(3, i, 0), -11);
        }
        says("Promise 41: INDEX: below 0, behind the last CELL");
        for (int lane = 0; lane < 3; lane++) {
            for (int n : new int[] {0, 1, 7, 40}) {
                x.sheet(lane, lane, n);
                for (int i : new int[] {MIN, -1, n, n + 1, MAX}) {
                    due("lay(" + lane + ", " + i + ", 0) of " + n, x.lay(lane, i, 0), -12);
                }
                if (n > 0) {
                    due("lay(.., 0, 0) of " + n, x.lay(lane, 0, 0), 1);
                    due("lay(.., n - 1, 0) of " + n, x.lay(lane, n - 1, 0), 1);
                }
            }
        }
    }

    private static void lowestBits() {
        BasketRound x = five();
        int[][] zero = {{0, 256, -256, 512, MIN}, {0, 65536, -65536, MIN}, {0}};
        int[][] four = {{4, 260, -252, 65540}, {4, 65540, -65532}, {4}};
        int[][] bad = {{5, 127, 128, 255, -1, -128, 511, MAX}, {5, 256, 260, 32767, 32768, 65535, -1, -32768, MAX},
            {5, 256, 65536, 65540, -1, MIN, MAX, MIN + 4}};
        for (int lane = 0; lane < 3; lane++) {
            says("Promise 41: v (its lowest bits), lane " + lane);
            x.sheet(lane, lane, 2);
            for (int v : zero[lane]) {
                due("lay(.., 1, " + v + ")", x.lay(lane, 1, v), 1);
                due("read of " + v, x.read(lane, lane, 0, 1), 1);
                due("rule(5): 0 with 0", x.rule(5), base5(0, 1, 2, 3, 4));
            }
            for (int v : four[lane]) {
                due("lay(.., 1, " + v + ")", x.lay(lane, 1, v), 1);
                due("read of " + v, x.read(lane, lane, 0, 1), 1);
                due("rule(5): 0 with 4", x.rule(5), base5(4, 1, 2, 3, 0));
                x.swap(0, 4);
            }
            for (int v : bad[lane]) {
                due("lay(.., 1, " + v + ")", x.lay(lane, 1, v), 1);
                due("read of " + v, x.read(lane, lane, 0, 1), -20);
            }
        }
    }

    private static void read() {
        BasketRound x = five();
        x.sheet(0, 0, 40);
        bounds("Promise 42: BAD: k", 0, 3, k -> x.read(k, 0, 0, 1));
        bounds("Promise 42: BAD: lane", 0, 2, lane -> x.read(0, lane, 0, 1));
        bounds("Promise 42: n (0 to 20)", 0, 20, n -> x.read(0, 0, 0, n));
        says("Promise 42: n (0 to 20): how many were");
        due("read(0, 0, 0, 20): all", x.read(0, 0, 0, 20), 20);
        due("torn()", x.torn(), 0);
        due("read(0, 0, 1, 20): the last is half", x.read(0, 0, 1, 20), 19);
        due("torn()", x.torn(), 2);
        due("read(0, 0, 0, 0)", x.read(0, 0, 0, 0), 0);
        due("torn()", x.torn(), 0);
        says("Promise 42: from CELL f on: the last pair, half a pair, none");
        due("read(0, 0, 38, 1)", x.read(0, 0, 38, 1), 1);
        due("torn()", x.torn(), 0);
        for (int f : new int[] {39, 40, 41, MAX, MAX - 1, -1, -2, MIN, MIN + 1}) {
            due("read(0, 0, 0, 1)", x.read(0, 0, 0, 1), 1);
            due("read(0, 0, " + f + ", 20)", x.read(0, 0, f, 20), 0);
            due("torn() of " + f, x.torn(), 2);
        }
        says("Promise 42: a SHEET of no CELLS");
        x.sheet(1, 1, 0);
        due("read(1, 1, 0, 1)", x.read(1, 1, 0, 1), 0);
        due("torn()", x.torn(), 2);
        says("Promise 42: nothing: NULL; another lane: CAST; ahead of INDEX");
        for (int lane = 0; lane < 3; lane++) {
            due("read(3, " + lane + ", -1, 1)", x.read(3, lane, -1, 1), 0);
            due("torn()", x.torn(), 1);
            for (int other = 0; other < 3; other++) {
                x.sheet(2, lane, 4);
                due("read of " + lane + " as " + other, x.read(2, other, 0, 2), lane == other ? 2 : 0);
                due("torn()", x.torn(), lane == other ? 0 : 3);
                due("read of " + lane + " as " + other, x.read(2, other, 99, 2), 0);
                due("torn()", x.torn(), lane == other ? 2 : 3);
            }
        }
        says("Promise 42: one behind another as by swap()");
        x.sheet(0, 2, 40);
        BasketRound y = five();
        for (int i = 0; i < 20; i++) {
            x.lay(0, 2 * i, i * 3 % 5);
            x.lay(0, 2 * i + 1, i * i % 5);
            y.swap(i * 3 % 5, i * i % 5);
        }
        due("read(0, 2, 0, 20)", x.read(0, 2, 0, 20), 20);
        due("rule(5)", x.rule(5), y.rule(5));
        due("PACKED is as it was", x.rule(4), base5(0, 1, 2, 3, 4));
    }

    private static void readAndRefused() {
        says("Promise 42: what the machine refuses: those that were whole ahead were");
        BasketRound x = five();
        x.sheet(0, 0, 5);
        int[] row = {0, 1, 1, 2, 9};
        for (int i = 0; i < row.length; i++) {
            x.lay(0, i, row[i]);
        }
        due("read(0, 0, 0, 3): the third is half, though 9 is no ORDER", x.read(0, 0, 0, 3), 2);
        due("torn()", x.torn(), 2);
        due("rule(5)", x.rule(5), base5(2, 0, 1, 3, 4));
        says("Promise 42: -20 less i: the i-th, whole, is BAD: then none was");
        x = five();
        x.sheet(0, 0, 40);
        for (int i = 0; i < 20; i++) {
            x.lay(0, 2 * i, 0);
            x.lay(0, 2 * i + 1, 1);
        }
        due("read(0, 0, 0, 19)", x.read(0, 0, 0, 19), 19);
        due("rule(5)", x.rule(5), base5(1, 0, 2, 3, 4));
        for (int i : new int[] {19, 18, 1, 0}) {
            x.lay(0, 2 * i + 1, 5);
            due("its second is none, " + i, x.read(0, 0, 0, 20), -20 - i);
            due("rule(5)", x.rule(5), base5(1, 0, 2, 3, 4));
            x.lay(0, 2 * i + 1, 1);
            x.lay(0, 2 * i, -1);
            due("its first is none, " + i, x.read(0, 0, 0, 20), -20 - i);
            due("rule(5)", x.rule(5), base5(1, 0, 2, 3, 4));
        }
        says("Promise 42: the first met: BAD ahead of what the machine would refuse behind it");
        due("read(0, 0, 36, 3)", x.read(0, 0, 36, 3), -20);
        due("read(0, 0, 34, 4)", x.read(0, 0, 34, 4), -21);
        due("read(0, 0, 33, 4): the last is half", x.read(0, 0, 33, 4), -21);
        due("rule(5)", x.rule(5), base5(1, 0, 2, 3, 4));
        says("Promise 42: no ORDERS: the first is BAD");
        BasketRound none = told(SIX);
        none.sheet(0, 0, 2);
        due("read(0, 0, 0, 1)", none.read(0, 0, 0, 1), -20);
        due("read(0, 0, 0, 0)", none.read(0, 0, 0, 0), 0);
        due("read(0, 0, 1, 1)", none.read(0, 0, 1, 1), 0);
        due("torn()", none.torn(), 2);
        torn();
    }

    private static void torn() {
        says("Promise 43: the FAULT of the latest read() that came to an end; 0");
        BasketRound x = five();
        x.sheet(0, 0, 2);
        x.lay(0, 1, 5);
        due("read of nothing", x.read(3, 0, 0, 1), 0);
        due("torn()", x.torn(), 1);
        due("torn() once more", x.torn(), 1);
        due("read(0, 0, 0, 1), BAD within", x.read(0, 0, 0, 1), -20);
        due("torn()", x.torn(), 1);
        due("read(0, 0, 0, 21), BAD", x.read(0, 0, 0, 21), BAD);
        due("torn()", x.torn(), 1);
        due("lay(0, 2, 0), INDEX", x.lay(0, 2, 0), -12);
        due("sheet(0, 0, -1), SIZE", x.sheet(0, 0, -1), -14);
        due("torn() is of read() alone", x.torn(), 1);
        x.lay(0, 1, 4);
        due("read(0, 0, 0, 1)", x.read(0, 0, 0, 1), 1);
        due("torn()", x.torn(), 0);
    }

    private static void counts() {
        BasketRound x = told(SIX + "order ice 6 9 9 99;order ice 6 9 9 99;order ice 6 9 9 99;order ice 6 9 9 99;"
            + "order ice 6 9 9 99;");
        bounds("Promise 44: count(what)", 0, 5, x::count);
        says("Promise 44: at their least");
        int[] least = {0, 0, 0, NONE, 45, 24};
        for (int what = 0; what < 6; what++) {
            due("count(" + what + ")", x.count(what), least[what]);
        }
        for (int i = 0; i < 6; i++) {
            x.see(4, 199);
        }
        x.keep(0);
        x.keep(1);
        for (int i = 0; i < 160; i++) {
            x.feed(' ');
        }
        x.sheet(0, 0, 40);
        says("Promise 44: at their most");
        int[] most = {6, 2, 160, 40, 45, 24};
        for (int what = 0; what < 6; what++) {
            due("count(" + what + ")", x.count(what), most[what]);
        }
        says("Promise 44: all PENNIES that there could be: those that are lost, too");
        for (int o = 0; o < 5; o++) {
            x.ask(o, 4, 0);
        }
        due("pennies()", x.pennies(), 0);
        due("count(4)", x.count(4), 45);
        says("Promise 44: MINUTES of all STRETCHES, the most; of none");
        due("count(5)", told("up 9;up 9;up 9;down 9;down 9;down 9;push 0;").count(5), 54);
        due("count(5)", new BasketRound().count(5), 0);
    }
}

/**
 * Promise by promise, with answers reckoned by hand from the document; but those of best, packing, soonest and
 * two(1, ..) for SHOP are the shared test's.
 */
public final class Promises {
    private static final String SHOP = "road 2;up 3;down 4;order eggs 2 3 5 20;order paraffin 3 6 4 30;"
        + "order ice 1 2 9 25;order soda 2 8 1 9;push 12;start 3;pack 1 0;round 2 3;";

    private static int wrong = 0;
    private static int promise = 0;

    private static void due(String call, long got, long want) {
        if (got != want) {
            wrong++;
            System.out.println("promise " + promise + ": " + call + " answered " + got + ", due is " + want);
        }
    }

    private static void feedAll(BasketRound x, String text) {
        for (int i = 0; i < text.length(); i++) {
            x.feed(text.charAt(i));
        }
    }

    private static BasketRound shop() {
        return told(SHOP);
    }

    private static BasketRound told(String text) {
        BasketRound x = new BasketRound();
        feedAll(x, text);
        if (x.text() < 0) {
            wrong++;
            System.out.println("not taken: " + text);
        }
        return x;
    }

    private static void faultOf(String text, int kind, int place) {
        BasketRound x = shop();
        feedAll(x, text);
        due("text() of " + text, x.text(), -10 - place);
        due("fault() of " + text, x.fault(), kind);
        due("rule(1) behind " + text, x.rule(1), 4);
        due("count(2) behind " + text, x.count(2), 0);
    }

    public static void main(String[] args) {
        newObject();
        tape();
        text();
        faults();
        whatThereIs();
        whatIsChanged();
        round();
        spoilage();
        best();
        two();
        strengthAndStart();
        leave();
        odds();
        seen();
        drift();
        images();
        sheets();
        counts();
        if (wrong > 0) {
            System.exit(1);
        }
    }

    private static void newObject() {
        promise = 1;
        BasketRound x = new BasketRound();
        for (int what = 0; what <= 6; what++) {
            due("rule(" + what + ")", x.rule(what), what == 2 ? 10 : 0);
        }
        for (int k = 0; k < 4; k++) {
            due("lay(" + k + ", 0, 0)", x.lay(k, 0, 0), -11);
        }
        due("fault()", x.fault(), 0);
        due("torn()", x.torn(), 0);
        due("undo(0)", x.undo(0), -2);
        due("house(1, 0)", x.house(1, 0), -1);
        due("house(0, 0)", x.house(0, 0), -1);
        due("order(0, 0)", x.order(0, 0), -1);
        due("way(0, 0, 60)", x.way(0, 0, 60), 0);
    }

    private static void tape() {
        promise = 2;
        BasketRound x = new BasketRound();
        due("feed(-1)", x.feed(-1), -1);
        due("feed(128)", x.feed(128), -1);
        due("feed(0)", x.feed(0), 1);
        due("feed(127)", x.feed(127), 2);
        for (int i = 2; i < 160; i++) {
            due("feed(32)", x.feed(32), i + 1);
        }
        due("feed(32)", x.feed(32), -3);
        due("feed(128)", x.feed(128), -1);
        promise = 3;
        due("end(161)", x.end(161), -1);
        due("end(-1)", x.end(-1), -1);
        due("end(160)", x.end(160), 160);
        due("end(7)", x.end(7), 160);
        due("end(8)", x.end(8), -1);
        due("end(0)", x.end(0), 7);
        due("end(0)", x.end(0), 0);
        feedAll(x, "up 1;zz");
        due("end(5)", x.end(5), 7);
        due("text()", x.text(), 1);
    }

    private static void text() {
        promise = 4;
        BasketRound x = shop();
        due("house(2, 1)", x.house(2, 1), 1);
        due("house(3, 1)", x.house(3, 1), 2);
        due("text()", x.text(), 0);
        due("rule(0)", x.rule(0), 0);
        due("rule(1)", x.rule(1), 0);
        due("rule(2)", x.rule(2), 10);
        feedAll(x, "  pack;round   ;road09 ; up 01;order soda 2 9 0 00;push 00;start60 ;  ");
        due("text()", x.text(), 7);
        due("house(1, 0)", x.house(1, 0), 9);
        due("order(0, 1)", x.order(0, 1), 2);
        due("order(0, 4)", x.order(0, 4), 0);
        due("rule(2)", x.rule(2), 0);
        due("rule(3)", x.rule(3), 60);
        x = told("pack 4 0;round 3 1 2;up 1;order ice 1 1 1 1;order ice 1 1 1 1;order ice 1 1 1 1;"
            + "order ice 1 1 1 1;order ice 1 1 1 1;");
        due("rule(4)", x.rule(4), ((((4 * 5) + 0) * 5 + 1) * 5 + 2) * 5 + 3);
        due("rule(5)", x.rule(5), ((((3 * 5) + 1) * 5 + 2) * 5 + 0) * 5 + 4);
        x.see(0, 1);
        x.keep(0);
        x.sheet(0, 0, 3);
        feedAll(x, "x");
        x.text();
        due("count(0) behind a fault", x.count(0), 1);
        due("count(1) behind a fault", x.count(1), 1);
        x.text();
        due("count(0)", x.count(0), 0);
        due("count(1)", x.count(1), 0);
        due("count(3)", x.count(3), 3);
        due("undo(0)", x.undo(0), -2);
    }

    private static void faults() {
        promise = 5;
        faultOf("up 1; Up 1;", 1, 6);
        faultOf("up 100;", 1, 3);
        faultOf("up 1;\n", 1, 5);
        faultOf("push 123456789012345678901234567890;", 1, 5);
        faultOf("100", 1, 0);
        faultOf("road", 2, 4);
        faultOf("road 1  ", 2, 8);
        faultOf("roads 1;", 2, 0);
        faultOf(";", 2, 0);
        faultOf("1;", 2, 0);
        faultOf("up ;", 2, 3);
        faultOf("up 1 2;", 2, 5);
        faultOf("up 1up 1;", 2, 4);
        faultOf("order 1", 2, 6);
        faultOf("order up 1", 2, 6);
        faultOf("order ice ice", 2, 10);
        faultOf("order ice 1 1 1;", 2, 15);
        faultOf("pack 0 up", 2, 7);
        faultOf("up 0 $", 3, 3);
        faultOf("push 61;", 3, 5);
        faultOf("start 61;", 3, 6);
        faultOf("order ice 1 1 10", 3, 14);
        faultOf("pack 0 5;", 3, 7);
        faultOf("round 9;", 3, 6);
        faultOf("push 1;push$", 4, 7);
        faultOf("start 1;start", 4, 8);
        faultOf("pack ;pack", 4, 6);
        faultOf("round;round", 4, 6);
        faultOf("pack 0 1 0 $", 4, 9);
        faultOf("round 3 3", 4, 8);
        faultOf("pack 0 1 2 3 4 0", 4, 15);
        faultOf("up 1;up 1;up 1;up 1;up 1;up 1;down$", 5, 30);
        faultOf("order ice 1 1 1 1;order ice 1 1 1 1;order ice 1 1 1 1;order ice 1 1 1 1;order ice 1 1 1 1;order", 5, 90);
        faultOf("order ice 1 1 1 1;", 6, 18);
        faultOf("order ice 2 1 1 1;up 1; ", 6, 24);
        faultOf("up 1;pack 0;", 6, 12);
        faultOf("up 1;order ice 1 1 1 1;round 1;", 6, 31);
        faultOf("order ice 1 1 1 1;zz", 2, 18);
        BasketRound x = new BasketRound();
        feedAll(x, "1");
        x.text();
        due("fault()", x.fault(), 2);
        x.text();
        due("fault()", x.fault(), 0);
    }

    private static void whatThereIs() {
        promise = 6;
        BasketRound x = shop();
        int[] rules = {3, 4, 12, 3, 1 * 125 + 0 + 2 * 5 + 3, 2 * 125 + 3 * 25 + 0 + 1, 19};
        for (int what = 0; what < rules.length; what++) {
            due("rule(" + what + ")", x.rule(what), rules[what]);
        }
        due("rule(-1)", x.rule(-1), -1);
        due("rule(7)", x.rule(7), -1);
        promise = 7;
        due("house(1, 0)", x.house(1, 0), 2);
        due("house(1, 1)", x.house(1, 1), 0);
        due("house(3, 0)", x.house(3, 0), 4);
        due("house(4, 0)", x.house(4, 0), -1);
        due("house(0, 0)", x.house(0, 0), -1);
        due("house(1, 2)", x.house(1, 2), -1);
        due("house(1, -1)", x.house(1, -1), -1);
        promise = 8;
        int[] soda = {3, 2, 8, 1, 9, 3, 1};
        for (int what = 0; what < soda.length; what++) {
            due("order(3, " + what + ")", x.order(3, what), soda[what]);
        }
        due("order(1, 5)", x.order(1, 5), 0);
        due("order(1, 6)", x.order(1, 6), 3);
        due("order(4, 0)", x.order(4, 0), -1);
        due("order(-1, 0)", x.order(-1, 0), -1);
        due("order(0, 7)", x.order(0, 7), -1);
        due("order(0, -1)", x.order(0, -1), -1);
    }

    private static void whatIsChanged() {
        promise = 9;
        BasketRound x = shop();
        due("set(0, 60)", x.set(0, 60), 12);
        due("set(1, 0)", x.set(1, 0), 3);
        due("set(0, 61)", x.set(0, 61), -1);
        due("set(1, -1)", x.set(1, -1), -1);
        due("set(2, 1)", x.set(2, 1), -1);
        due("set(-1, 1)", x.set(-1, 1), -1);
        due("rule(2)", x.rule(2), 60);
        due("rule(3)", x.rule(3), 0);
        promise = 10;
        due("pack(0, 3)", x.pack(0, 3), 1 * 125 + 3 * 25 + 2 * 5 + 0);
        due("pack(2, 2)", x.pack(2, 2), 1 * 125 + 3 * 25 + 2 * 5 + 0);
        due("pack(0, 4)", x.pack(0, 4), -1);
        due("pack(-1, 0)", x.pack(-1, 0), -1);
        due("rule(5)", x.rule(5), 326);
        promise = 11;
        due("swap(2, 1)", x.swap(2, 1), 1 * 125 + 3 * 25 + 0 + 2);
        due("swap(4, 1)", x.swap(4, 1), -1);
        due("swap(1, -1)", x.swap(1, -1), -1);
        due("rule(4)", x.rule(4), 210);
        promise = 12;
        due("top(0)", x.top(0), 0 + 1 * 25 + 3 * 5 + 2);
        due("top(0)", x.top(0), 42);
        due("top(3)", x.top(3), 3 * 125 + 0 + 5 + 2);
        due("top(4)", x.top(4), -1);
        due("top(-1)", x.top(-1), -1);
        promise = 13;
        due("first(2)", x.first(2), 2 * 125 + 25 + 15 + 0);
        due("first(4)", x.first(4), -1);
        due("first(-1)", x.first(-1), -1);
        promise = 14;
        due("ask(0, 3, 0)", x.ask(0, 3, 0), 5);
        due("ask(0, 3, 10)", x.ask(0, 3, 10), -1);
        due("ask(0, 3, -1)", x.ask(0, 3, -1), -1);
        due("ask(0, 4, 99)", x.ask(0, 4, 99), 20);
        due("ask(0, 4, 100)", x.ask(0, 4, 100), -1);
        due("ask(0, 2, 1)", x.ask(0, 2, 1), -1);
        due("ask(0, 5, 1)", x.ask(0, 5, 1), -1);
        due("ask(4, 3, 1)", x.ask(4, 3, 1), -1);
        due("order(0, 3)", x.order(0, 3), 0);
        due("order(0, 4)", x.order(0, 4), 99);
        promise = 15;
        due("turn(0, 4)", x.turn(0, 4), 1);
        due("turn(0, 5)", x.turn(0, 5), -1);
        due("turn(0, -1)", x.turn(0, -1), -1);
        due("turn(4, 0)", x.turn(4, 0), -1);
        due("order(0, 0)", x.order(0, 0), 4);
        promise = 16;
        due("weigh(0, 9)", x.weigh(0, 9), 3);
        due("weigh(0, 10)", x.weigh(0, 10), -1);
        due("weigh(0, 0)", x.weigh(0, 0), -1);
        due("weigh(4, 1)", x.weigh(4, 1), -1);
        due("order(0, 2)", x.order(0, 2), 9);
        due("rule(6)", x.rule(6), 25);
    }

    private static void round() {
        promise = 17;
        BasketRound x = shop();
        due("way(0, 3, 12)", x.way(0, 3, 12), 9);
        due("way(0, 3, 13)", x.way(0, 3, 13), 12);
        due("way(3, 0, 13)", x.way(3, 0, 13), 13);
        due("way(1, 1, 13)", x.way(1, 1, 13), 0);
        due("way(0, 4, 0)", x.way(0, 4, 0), -1);
        due("way(4, 0, 0)", x.way(4, 0, 0), -1);
        due("way(-1, 0, 0)", x.way(-1, 0, 0), -1);
        due("way(0, 0, 61)", x.way(0, 0, 61), -1);
        due("way(0, 0, -1)", x.way(0, 0, -1), -1);
        promise = 18;
        int[] times = {20, 25, 8, 18};
        for (int o = 0; o < 4; o++) {
            due("time(" + o + ")", x.time(o), times[o]);
        }
        due("time(4)", x.time(4), -1);
        due("time(-1)", x.time(-1), -1);
        promise = 19;
        due("back()", x.back(), 34);
        promise = 20;
        due("spoilt()", x.spoilt(), 1);
        promise = 21;
        due("late()", x.late(), 8);
        x.ask(0, 4, 19);
        due("late()", x.late(), 9);
        promise = 22;
        due("pennies()", x.pennies(), 13);
        promise = 23;
        due("spent(0)", x.spent(0), 5);
        due("spent(1)", x.spent(1), 21);
        due("spent(2)", x.spent(2), 5);
        due("spent(3)", x.spent(3), -1);
        due("spent(-1)", x.spent(-1), -1);
    }

    private static void spoilage() {
        promise = 20;
        BasketRound x = told("road 1;order plain 1 5 1 99;order eggs 1 1 1 99;order eggs 1 1 1 99;");
        due("spoilt() under 5, 6", x.spoilt(), 4);
        x.weigh(0, 6);
        due("spoilt() under 6, 7", x.spoilt(), 6);
        x.top(1);
        due("spoilt() on top", x.spoilt(), 4);
        // What has been called at already counts as it was packed.
        x.first(0);
        due("spoilt() as packed", x.spoilt(), 4);
        x.turn(1, 4);
        due("spoilt() right below paraffin alone", x.spoilt(), 1 + 4);
        x = told("road 9;road 9;order ice 2 1 5 99;start 40;");
        due("time(0)", x.time(0), 59);
        due("spoilt() at 19", x.spoilt(), 0);
        x = told("road 9;road 9;road 1;order ice 3 1 5 99;start 40;");
        due("spoilt() at 20", x.spoilt(), 0);
        x = told("road 9;road 9;road 2;order ice 3 1 5 99;start 40;");
        due("spoilt() at 21", x.spoilt(), 1);
        promise = 22;
        due("pennies()", x.pennies(), 0);
        x.turn(0, 0);
        due("pennies()", x.pennies(), 5);
        x.ask(0, 4, 61);
        due("pennies()", x.pennies(), 5);
        x.ask(0, 4, 60);
        due("pennies()", x.pennies(), 0);
    }

    private static void best() {
        promise = 24;
        BasketRound x = shop();
        int[] answers = {18, 29, 258, 258};
        for (int what = 0; what < 4; what++) {
            due("best(" + what + ")", x.best(what), answers[what]);
        }
        due("best(4)", x.best(4), -1);
        due("best(-1)", x.best(-1), -1);
        due("rule(4)", x.rule(4), 138);
        due("rule(5)", x.rule(5), 326);
        // Eggs must lie on top; of two paraffins the lower one is spoilt, so that of 4 pennies; no digging.
        x = told("road 1;road 1;order paraffin 2 3 4 99;order paraffin 1 3 5 99;order eggs 1 1 9 99;");
        due("best(0)", x.best(0), 14);
        due("best(1)", x.best(1), 7);
        due("best(2)", x.best(2), 2 * 25 + 1 * 5 + 0);
        due("best(3)", x.best(3), 2 * 25 + 1 * 5 + 0);
        promise = 25;
        x = shop();
        due("packing(0)", x.packing(0), 18);
        due("packing(1)", x.packing(1), 30);
        due("packing(2)", x.packing(2), 266);
        due("packing(3)", x.packing(3), -1);
        due("packing(-1)", x.packing(-1), -1);
        promise = 26;
        due("soonest(0)", x.soonest(0), 31);
        due("soonest(1)", x.soonest(1), 42);
        due("soonest(2)", x.soonest(2), -1);
        due("soonest(-1)", x.soonest(-1), -1);
        due("rule(5)", x.rule(5), 326);
    }

    private static void two() {
        promise = 27;
        BasketRound x = shop();
        due("two(15, 0)", x.two(15, 0), 13);
        due("two(15, 1)", x.two(15, 1), 34);
        due("two(1, 0)", x.two(1, 0), 5);
        due("two(1, 1)", x.two(1, 1), 41);
        due("two(16, 0)", x.two(16, 0), -1);
        due("two(-1, 0)", x.two(-1, 0), -1);
        due("two(0, 2)", x.two(0, 2), -1);
        due("two(0, -1)", x.two(0, -1), -1);
        // Ice in the second round: 1 + 1 minutes behind its START (30), whatever the first one took.
        x = told("road 1;road 9;order plain 2 1 1 99;order ice 1 1 7 99;start 9;");
        due("two(1, 0)", x.two(1, 0), 8);
        due("two(1, 1)", x.two(1, 1), 33);
        promise = 28;
        x = told("road 5;order eggs 1 1 6 7;order plain 1 9 1 50;order paraffin 1 1 4 6;");
        // One round: 0 at 6, 1 (9 above it, dug 0) at 7, 2 late. 2 first: it at 6, then back at 11.
        due("split(0)", x.split(0), 0);
        due("split(1)", x.split(1), 7);
        due("split(2)", x.split(2), 13);
        x.top(1);
        // Now eggs lie below 9: alone they are had, and so is what follows (TIME 17).
        due("split(0)", x.split(0), 1);
        due("split(1)", x.split(1), 7);
        due("split(2)", x.split(2), 23);
        due("split(3)", x.split(3), -1);
        due("split(-1)", x.split(-1), -1);
    }

    private static void strengthAndStart() {
        BasketRound x = shop();
        promise = 29;
        due("strength()", x.strength(), -4);
        promise = 30;
        due("latest()", x.latest(), -4);
        x.ask(3, 4, 15);
        promise = 29;
        due("strength()", x.strength(), 17);
        x.ask(3, 4, 18);
        due("strength()", x.strength(), 0);
        due("rule(2)", x.rule(2), 12);
        promise = 30;
        due("latest()", x.latest(), 3);
        x.ask(0, 4, 19);
        due("latest()", x.latest(), 2);
        due("rule(3)", x.rule(3), 3);
        due("latest() by all", told("road 1;order plain 1 1 1 62;").latest(), 60);
        due("latest() by fewer", told("road 1;order plain 1 1 1 61;").latest(), 59);
    }

    private static void leave() {
        promise = 31;
        BasketRound x = shop();
        due("leave(0)", x.leave(0), 1);
        due("leave(1)", x.leave(1), 14);
        due("leave(2)", x.leave(2), -1);
        due("leave(-1)", x.leave(-1), -1);
        // What the others give counts, not what the one left out gave itself.
        x.ask(1, 3, 9);
        due("pennies()", x.pennies(), 18);
        due("leave(0)", x.leave(0), 1);
        due("leave(1)", x.leave(1), 14);
        x = told("road 1;order plain 1 1 4 99;order plain 1 1 4 99;");
        due("leave(0)", x.leave(0), -4);
        due("leave(1)", x.leave(1), -4);
        // Three of which the last is late by one door: the first of the two ahead of it.
        x = told("road 1;order plain 1 1 4 99;order plain 1 1 4 99;order plain 1 1 5 3;");
        due("leave(0)", x.leave(0), 0);
        due("leave(1)", x.leave(1), 9);
    }

    private static void odds() {
        promise = 32;
        BasketRound x = shop();
        due("mean(3, 0)", x.mean(3, 0), 91);
        due("mean(3, 1)", x.mean(3, 1), 10);
        due("mean(5, 0)", x.mean(5, 0), 13);
        due("mean(5, 1)", x.mean(5, 1), 2);
        due("mean(0, 0)", x.mean(0, 0), 13);
        due("mean(0, 1)", x.mean(0, 1), 1);
        due("mean(10, 0)", x.mean(10, 0), 0);
        due("mean(10, 1)", x.mean(10, 1), 1);
        due("mean(11, 0)", x.mean(11, 0), -1);
        due("mean(-1, 0)", x.mean(-1, 0), -1);
        due("mean(1, 2)", x.mean(1, 2), -1);
        due("mean(1, -1)", x.mean(1, -1), -1);
        promise = 33;
        int[] least = {0, 1, 5, 10, 13, 14, 45};
        int[] above = {1, 91, 7, 49, 49, 0, 0};
        int[] below = {1, 100, 10, 100, 100, 1, 1};
        for (int i = 0; i < least.length; i++) {
            due("luck(3, " + least[i] + ", 0)", x.luck(3, least[i], 0), above[i]);
            due("luck(3, " + least[i] + ", 1)", x.luck(3, least[i], 1), below[i]);
        }
        due("luck(0, 13, 0)", x.luck(0, 13, 0), 1);
        due("luck(10, 1, 0)", x.luck(10, 1, 0), 0);
        due("luck(10, 0, 1)", x.luck(10, 0, 1), 1);
        due("luck(11, 0, 0)", x.luck(11, 0, 0), -1);
        due("luck(-1, 0, 0)", x.luck(-1, 0, 0), -1);
        due("luck(1, 46, 0)", x.luck(1, 46, 0), -1);
        due("luck(1, -1, 0)", x.luck(1, -1, 0), -1);
        due("luck(1, 1, 2)", x.luck(1, 1, 2), -1);
        due("luck(1, 1, -1)", x.luck(1, 1, -1), -1);
    }

    private static void seen() {
        promise = 36;
        BasketRound x = shop();
        due("fits(0)", x.fits(0), 24);
        due("fits(1)", x.fits(1), 38);
        due("fits(2)", x.fits(2), 15);
        promise = 34;
        due("see(2, 8)", x.see(2, 8), 1);
        due("see(2, 200)", x.see(2, 200), -1);
        due("see(2, -1)", x.see(2, -1), -1);
        due("see(4, 8)", x.see(4, 8), -1);
        due("see(-1, 8)", x.see(-1, 8), -1);
        promise = 36;
        due("fits(0)", x.fits(0), 6);
        due("fits(1)", x.fits(1), 258);
        due("fits(2)", x.fits(2), 4);
        due("fits(3)", x.fits(3), -1);
        due("fits(-1)", x.fits(-1), -1);
        x.see(2, 9);
        due("fits(0)", x.fits(0), 0);
        due("fits(1)", x.fits(1), -4);
        due("fits(2)", x.fits(2), 0);
        promise = 35;
        due("forget(3)", x.forget(3), -1);
        due("forget(-1)", x.forget(-1), -1);
        due("forget(1)", x.forget(1), 2);
        due("fits(0)", x.fits(0), 6);
        due("forget(0)", x.forget(0), 1);
        due("fits(0)", x.fits(0), 24);
        promise = 34;
        for (int i = 0; i < 6; i++) {
            due("see(0, 199)", x.see(0, 199), i + 1);
        }
        due("see(0, 0)", x.see(0, 0), -3);
        due("see(4, 0)", x.see(4, 0), -1);
        due("count(0)", x.count(0), 6);
    }

    private static void drift() {
        promise = 37;
        BasketRound x = shop();
        // Seed 1 comes to 1103527590: its bits 16 to 30 are 16838, by 4: ORDER 2.
        due("drift(1, 1, 0)", x.drift(1, 1, 0), 13);
        due("drift(1, 1, 1)", x.drift(1, 1, 1), 34);
        // Seed 0 comes to 12345: ORDER 0.
        BasketRound y = shop();
        y.first(0);
        due("drift(0, 1, 0)", x.drift(0, 1, 0), y.pennies());
        due("drift(0, 1, 1)", x.drift(0, 1, 1), y.back());
        due("rule(5)", x.rule(5), 326);
        due("drift(0, 0, 0)", x.drift(0, 0, 0), -1);
        due("drift(0, 61, 0)", x.drift(0, 61, 0), -1);
        due("drift(0, 1, 2)", x.drift(0, 1, 2), -1);
        due("drift(0, 1, -1)", x.drift(0, 1, -1), -1);
        x = new BasketRound();
        due("drift(0, 1, 0)", x.drift(0, 1, 0), -2);
        due("drift(0, 0, 0)", x.drift(0, 0, 0), -1);
    }

    private static void images() {
        BasketRound x = shop();
        promise = 38;
        due("keep(2)", x.keep(2), -1);
        due("keep(-1)", x.keep(-1), -1);
        due("keep(0)", x.keep(0), 0);
        due("keep(0)", x.keep(0), 1);
        promise = 39;
        due("undo(2)", x.undo(2), -1);
        due("undo(-1)", x.undo(-1), -1);
        due("undo(1)", x.undo(1), -2);
        x.set(0, 1);
        x.set(1, 50);
        x.top(3);
        x.first(0);
        x.ask(0, 3, 1);
        x.ask(0, 4, 1);
        x.turn(0, 2);
        x.weigh(0, 1);
        x.see(0, 7);
        due("keep(1)", x.keep(1), 0);
        due("undo(0)", x.undo(0), 3);
        int[] eggs = {1, 2, 3, 5, 20, 1, 2};
        for (int what = 0; what < eggs.length; what++) {
            due("order(0, " + what + ")", x.order(0, what), eggs[what]);
        }
        due("rule(2)", x.rule(2), 12);
        due("rule(4)", x.rule(4), 138);
        due("rule(5)", x.rule(5), 326);
        due("count(0)", x.count(0), 1);
        due("undo(1)", x.undo(1), 50);
        due("order(0, 2)", x.order(0, 2), 1);
        due("undo(0)", x.undo(0), 3);
    }

    private static void sheets() {
        promise = 40;
        BasketRound x = shop();
        due("sheet(4, 0, 1)", x.sheet(4, 0, 1), -1);
        due("sheet(-1, 0, 1)", x.sheet(-1, 0, 1), -1);
        due("sheet(0, 3, 1)", x.sheet(0, 3, 1), -1);
        due("sheet(0, -1, 1)", x.sheet(0, -1, 1), -1);
        due("sheet(0, 0, 41)", x.sheet(0, 0, 41), -1);
        due("sheet(4, 0, -1)", x.sheet(4, 0, -1), -1);
        due("sheet(0, 0, -1)", x.sheet(0, 0, -1), -14);
        due("lay(0, 0, 0)", x.lay(0, 0, 0), -11);
        due("sheet(0, 0, 40)", x.sheet(0, 0, 40), 1);
        due("sheet(0, 0, -1)", x.sheet(0, 0, -1), -14);
        promise = 41;
        due("lay(0, 39, 3)", x.lay(0, 39, 3), 1);
        due("lay(0, 40, 3)", x.lay(0, 40, 3), -12);
        due("lay(0, -1, 3)", x.lay(0, -1, 3), -12);
        due("lay(4, 0, 0)", x.lay(4, 0, 0), -1);
        due("lay(-1, 0, 0)", x.lay(-1, 0, 0), -1);
        promise = 42;
        due("read(0, 0, 38, 1)", x.read(0, 0, 38, 1), 1);
        due("rule(5) with 0 and 3 changed", x.rule(5), 2 * 125 + 0 + 15 + 1);
        due("read(0, 0, 38, 2)", x.read(0, 0, 38, 2), 1);
        due("torn()", x.torn(), 2);
        due("rule(5)", x.rule(5), 326);
        due("read(0, 0, 39, 1)", x.read(0, 0, 39, 1), 0);
        due("read of max", x.read(0, 0, Integer.MAX_VALUE, 20), 0);
        due("torn()", x.torn(), 2);
        due("read of min", x.read(0, 0, Integer.MIN_VALUE, 20), 0);
        due("read(0, 1, 99, 1)", x.read(0, 1, 99, 1), 0);
        due("torn() of another lane", x.torn(), 3);
        due("read(3, 1, 99, 1)", x.read(3, 1, 99, 1), 0);
        due("torn() of nothing", x.torn(), 1);
        due("read(0, 0, 0, 21)", x.read(0, 0, 0, 21), -1);
        due("read(0, 0, 0, -1)", x.read(0, 0, 0, -1), -1);
        due("read(0, 3, 0, 1)", x.read(0, 3, 0, 1), -1);
        due("read(4, 0, 0, 1)", x.read(4, 0, 0, 1), -1);
        promise = 43;
        due("torn() of the latest that ended", x.torn(), 1);
        x.lay(0, 38, 4);
        due("read(0, 0, 36, 2)", x.read(0, 0, 36, 2), -21);
        due("torn()", x.torn(), 1);
        due("read(0, 0, 36, 20)", x.read(0, 0, 36, 20), -21);
        x.lay(0, 38, 255);
        due("read(0, 0, 38, 1) of -1", x.read(0, 0, 38, 1), -20);
        x.lay(0, 38, 256 + 1);
        due("read(0, 0, 38, 1) of 1 and 3", x.read(0, 0, 38, 1), 1);
        due("rule(5)", x.rule(5), 2 * 125 + 1 * 25 + 0 + 3);
        due("torn()", x.torn(), 0);
        // The lowest bits, with their sign.
        x.sheet(1, 1, 2);
        x.lay(1, 0, 65536 + 2);
        due("read(1, 1, 0, 1)", x.read(1, 1, 0, 1), 1);
        x.lay(1, 0, 256);
        due("read(1, 1, 0, 1)", x.read(1, 1, 0, 1), -20);
        x.sheet(2, 2, 2);
        x.lay(2, 0, 65536);
        due("read(2, 2, 0, 1)", x.read(2, 2, 0, 1), -20);
        due("a new row is 0", x.sheet(2, 2, 2), 1);
        due("read(2, 2, 0, 1)", x.read(2, 2, 0, 1), 1);
        due("read(2, 2, 0, 0)", x.read(2, 2, 0, 0), 0);
        // All BAD: then none was, not those ahead either.
        x.sheet(3, 0, 4);
        x.lay(3, 1, 1);
        x.lay(3, 2, 9);
        int before = x.rule(5);
        due("read(3, 0, 0, 2)", x.read(3, 0, 0, 2), -21);
        due("rule(5)", x.rule(5), before);
        // A pair that is not whole is the machine's, whatever its first one is.
        due("read(3, 0, 2, 1)", x.read(3, 0, 2, 1), -20);
        x.sheet(3, 0, 3);
        x.lay(3, 2, 9);
        due("read(3, 0, 2, 1)", x.read(3, 0, 2, 1), 0);
        due("torn()", x.torn(), 2);
    }

    private static void counts() {
        promise = 44;
        BasketRound x = shop();
        due("count(3)", x.count(3), -4);
        x.sheet(0, 2, 0);
        x.see(0, 0);
        x.keep(1);
        x.feed(32);
        int[] all = {1, 1, 1, 0, 19, 9};
        for (int what = 0; what < all.length; what++) {
            due("count(" + what + ")", x.count(what), all[what]);
        }
        due("count(6)", x.count(6), -1);
        due("count(-1)", x.count(-1), -1);
    }
}

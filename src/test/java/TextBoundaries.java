/**
 * Each sentence of the document about THE TAPE and its text (Terms 1, promises 1 to 5) that names a boundary,
 * with tests of its own: what stands just inside it, and just outside.
 */
public final class TextBoundaries {
    private static final String STAYS = "down 4;up 2;order soda 1 3 4 50;order ice 2 2 6 60;push 7;start 8;pack 1;round 1;";
    private static final String FIVE_ORDERS = "order ice 1 1 1 1;order ice 1 1 1 1;order ice 1 1 1 1;order ice 1 1 1 1;"
        + "order ice 1 1 1 1;";
    private static final String[] ROADS = {"road", "up", "down"};
    private static final String[] KINDS = {"plain", "eggs", "ice", "soda", "paraffin"};
    private static final int BAD = -1, STATE = -2, FULL = -3, NONE = -4;

    private static int wrong = 0;
    private static String sentence = "";

    public static void main(String[] args) {
        newObject();
        bytes();
        fullTape();
        endOfTape();
        lines();
        emptyText();
        takenTellsAll();
        faultStays();
        signs();
        blanks();
        figures();
        minutes();
        housesAndOrders();
        orderFigures();
        kinds();
        letters();
        pushAndStart();
        rows();
        notHere();
        endsTooSoon();
        twice();
        missing();
        firstMet();
        if (wrong > 0) {
            System.exit(1);
        }
    }

    // ---------------------------------------------------------------- helpers

    private static void says(String words) {
        sentence = words;
    }

    private static void due(String call, long got, long want) {
        if (got != want) {
            wrong++;
            System.out.println(sentence + ": " + call + " answered " + got + ", due is " + want);
        }
    }

    private static void feedAll(BasketRound x, String text) {
        for (int i = 0; i < text.length(); i++) {
            due("feed of " + text, x.feed(text.charAt(i)), i + 1);
        }
    }

    private static BasketRound taken(String text, int lines) {
        BasketRound x = new BasketRound();
        feedAll(x, text);
        due("text() of [" + text + "]", x.text(), lines);
        due("fault() of [" + text + "]", x.fault(), 0);
        return x;
    }

    /** Fed to a shop that stands: the fault is told, the tape is empty, all else is as it was. */
    private static void refused(String text, int fault, int place) {
        BasketRound x = taken(STAYS, 8);
        x.see(0, 20);
        x.keep(0);
        x.keep(1);
        feedAll(x, text);
        due("text() of [" + text + "]", x.text(), -10 - place);
        due("fault() of [" + text + "]", x.fault(), fault);
        due("count(2) behind [" + text + "]", x.count(2), 0);
        stands(x);
        due("count(0) behind [" + text + "]", x.count(0), 1);
        due("count(1) behind [" + text + "]", x.count(1), 2);
        due("undo(0) behind [" + text + "]", x.undo(0), 8);
        due("undo(1) behind [" + text + "]", x.undo(1), 8);
    }

    private static void stands(BasketRound x) {
        int[] rules = {2, 2, 7, 8, 1 * 5 + 0, 1 * 5 + 0, 5};
        for (int what = 0; what < rules.length; what++) {
            due("rule(" + what + ") as it was", x.rule(what), rules[what]);
        }
        int[][] orders = {{3, 1, 3, 4, 50, 1, 1}, {2, 2, 2, 6, 60, 0, 0}};
        for (int o = 0; o < 2; o++) {
            for (int what = 0; what < 7; what++) {
                due("order(" + o + ", " + what + ") as it was", x.order(o, what), orders[o][what]);
            }
        }
        int[][] houses = {{4, 2}, {2, 1}};
        for (int h = 1; h <= 2; h++) {
            for (int what = 0; what < 2; what++) {
                due("house(" + h + ", " + what + ") as it was", x.house(h, what), houses[h - 1][what]);
            }
        }
    }

    private static String times(String s, int n) {
        return s.repeat(n);
    }

    // ---------------------------------------------------------------- promises 1 to 3

    private static void newObject() {
        says("Promise 1: No HOUSES, no ORDERS; SHEETS have nothing");
        BasketRound x = new BasketRound();
        due("rule(0)", x.rule(0), 0);
        due("rule(1)", x.rule(1), 0);
        due("house(1, 0)", x.house(1, 0), BAD);
        due("order(0, 0)", x.order(0, 0), BAD);
        due("count(3)", x.count(3), NONE);
        for (int k = 0; k <= 3; k++) {
            due("lay(" + k + ", 0, 0)", x.lay(k, 0, 0), -11);
        }
        says("Terms 1: PUSH 10 at first, START 0");
        due("rule(2)", x.rule(2), 10);
        due("rule(3)", x.rule(3), 0);
        says("Terms 1: PACKED, THE ROUND have all ORDERS: none");
        due("rule(4)", x.rule(4), 0);
        due("rule(5)", x.rule(5), 0);
        due("rule(6)", x.rule(6), 0);
        says("Promises 5, 43: 0 where there was no text(), no read()");
        due("fault()", x.fault(), 0);
        due("torn()", x.torn(), 0);
        says("Promise 44: nothing is SEEN, no IMAGES, THE TAPE is empty, at first");
        for (int what : new int[] {0, 1, 2, 4, 5}) {
            due("count(" + what + ")", x.count(what), 0);
        }
    }

    private static void bytes() {
        says("Promise 2: a byte (0 to 127)");
        BasketRound x = new BasketRound();
        for (int c = 0; c <= 127; c++) {
            due("feed(" + c + ")", x.feed(c), c + 1);
        }
        for (int c : new int[] {-1, 128, 255, 256, 256 + 'u', -128, 65536, Integer.MIN_VALUE, Integer.MAX_VALUE}) {
            due("feed(" + c + ")", x.feed(c), BAD);
        }
        due("count(2)", x.count(2), 128);
    }

    private static void fullTape() {
        says("Promise 2: FULL: more than 160");
        BasketRound x = new BasketRound();
        feedAll(x, times(" ", 159));
        due("the 160th", x.feed(';'), 160);
        due("the 161st", x.feed(' '), FULL);
        due("the 161st again", x.feed(' '), FULL);
        due("count(2)", x.count(2), 160);
        says("Terms: the first that fits: BAD ahead of FULL");
        due("feed(128)", x.feed(128), BAD);
        due("feed(-1)", x.feed(-1), BAD);
        says("Promise 2: FULL changes nothing: the last byte is the 160th");
        due("text()", x.text(), -10 - 159);
        due("fault()", x.fault(), 2);
        says("Promise 4: THE TAPE (empty then): it takes 160 more");
        feedAll(x, times(" ", 160));
        due("feed(32)", x.feed(32), FULL);
        due("end(159)", x.end(159), 160);
        due("feed(32)", x.feed(32), 160);
        due("feed(32)", x.feed(32), FULL);
        due("text()", x.text(), 0);
        says("Terms 1: places from 0, to the end of 160 bytes");
        refused("$" + times(" ", 159), 1, 0);
        refused(times(" ", 159) + "$", 1, 159);
        refused(times(" ", 157) + "pac", 2, 157);
        refused(times(" ", 156) + "pack", 2, 160);
        refused(times(" ", 158) + "up", 2, 160);
        refused("order ice 3 1 1 1;" + times(" ", 142), 6, 160);
        taken(times(" ", 155) + "pack;", 1);
    }

    private static void endOfTape() {
        says("Promise 3: BAD: fewer bytes than 0, more than it has");
        BasketRound x = new BasketRound();
        due("end(0) of nothing", x.end(0), 0);
        due("end(1) of nothing", x.end(1), BAD);
        due("end(-1) of nothing", x.end(-1), BAD);
        feedAll(x, "up 1;zz");
        for (int n : new int[] {-1, 8, 160, 161, Integer.MIN_VALUE, Integer.MAX_VALUE}) {
            due("end(" + n + ")", x.end(n), BAD);
            due("count(2)", x.count(2), 7);
        }
        says("Promise 3: THE TAPE keeps its first n bytes: how many it had");
        due("end(7)", x.end(7), 7);
        due("count(2)", x.count(2), 7);
        due("end(5)", x.end(5), 7);
        due("count(2)", x.count(2), 5);
        due("end(6)", x.end(6), BAD);
        due("feed('u')", x.feed('u'), 6);
        x.feed('p');
        x.feed('9');
        x.feed(';');
        due("text()", x.text(), 2);
        due("house(2, 0)", x.house(2, 0), 9);
        feedAll(x, "up 1;");
        due("end(0)", x.end(0), 5);
        due("count(2)", x.count(2), 0);
        due("text()", x.text(), 0);
        feedAll(x, times(" ", 160));
        due("end(161) of a full one", x.end(161), BAD);
        due("end(160) of a full one", x.end(160), 160);
        due("end(159) of a full one", x.end(159), 160);
        due("end(160) then", x.end(160), BAD);
    }

    // ---------------------------------------------------------------- promises 4 and 5

    private static void lines() {
        says("Promise 4: how many lines: the most that there can be");
        BasketRound x = taken(times("up1;", 6) + FIVE_ORDERS + "push1;start1;pack;round;", 15);
        due("rule(0)", x.rule(0), 6);
        due("rule(1)", x.rule(1), 5);
        says("Promise 4: how many lines: one");
        for (String line : new String[] {"road 1;", "up 1;", "down 1;", "push 1;", "start 1;", "pack ;", "round ;"}) {
            taken(line, 1);
        }
    }

    private static void emptyText() {
        says("Promise 4: a text of no line tells all: there is nothing");
        for (String text : new String[] {"", " ", times(" ", 160)}) {
            BasketRound x = taken(STAYS, 8);
            x.see(0, 20);
            x.keep(0);
            feedAll(x, text);
            due("text()", x.text(), 0);
            due("fault()", x.fault(), 0);
            int[] rules = {0, 0, 10, 0, 0, 0, 0};
            for (int what = 0; what < rules.length; what++) {
                due("rule(" + what + ")", x.rule(what), rules[what]);
            }
            due("house(1, 0)", x.house(1, 0), BAD);
            due("order(0, 0)", x.order(0, 0), BAD);
            due("count(0)", x.count(0), 0);
            due("count(1)", x.count(1), 0);
        }
    }

    private static void takenTellsAll() {
        says("Terms 1: a text that is taken tells all, in place of what there was");
        BasketRound x = taken(STAYS, 8);
        for (int i = 0; i < 6; i++) {
            x.see(1, 199);
        }
        x.keep(0);
        x.keep(1);
        x.sheet(0, 2, 7);
        x.read(1, 0, 0, 1);
        feedAll(x, "road 5;order eggs 1 9 0 0;order plain 1 1 1 1;order plain 1 1 1 1;");
        due("text()", x.text(), 4);
        int[] rules = {1, 3, 10, 0, 0 * 25 + 1 * 5 + 2, 0 * 25 + 1 * 5 + 2, 11};
        for (int what = 0; what < rules.length; what++) {
            due("rule(" + what + ")", x.rule(what), rules[what]);
        }
        due("house(2, 0)", x.house(2, 0), BAD);
        says("Terms 1: nothing is SEEN");
        due("count(0)", x.count(0), 0);
        due("see(0, 0)", x.see(0, 0), 1);
        says("Terms 1: IMAGES are gone");
        due("count(1)", x.count(1), 0);
        due("undo(0)", x.undo(0), STATE);
        due("undo(1)", x.undo(1), STATE);
        due("keep(0)", x.keep(0), 0);
        says("Promise 4: SHEETS and torn() are no part of a text");
        due("count(3)", x.count(3), 7);
        due("torn()", x.torn(), 1);
    }

    private static void faultStays() {
        says("Promise 5: the FAULT of the latest text(); 0");
        BasketRound x = taken(STAYS, 8);
        feedAll(x, "up 0;");
        due("fault() ahead of text()", x.fault(), 0);
        due("text()", x.text(), -13);
        due("fault()", x.fault(), 3);
        due("fault() asked again", x.fault(), 3);
        feedAll(x, "up 1;");
        due("fault() ahead of the next text()", x.fault(), 3);
        due("feed(128)", x.feed(128), BAD);
        due("end(9)", x.end(9), BAD);
        due("fault() behind refused calls", x.fault(), 3);
        due("text()", x.text(), 1);
        due("fault() of a text that is taken", x.fault(), 0);
    }

    // ---------------------------------------------------------------- tokens

    private static void signs() {
        says("FAULT 1: no TOKEN: every byte but a .. z, 0 .. 9, ; and 32");
        for (char c = 0; c <= 127; c++) {
            boolean isBlank = c == ' ';
            boolean isToken = c >= 'a' && c <= 'z' || c >= '0' && c <= '9' || c == ';';
            if (isBlank) {
                taken("up 1;" + c, 1);
            } else {
                refused("up 1;" + c, isToken ? 2 : 1, 5);
            }
        }
        says("TOKENS: NAMES (a .. z): these, next to them on either side, end a NAME");
        refused("up`1;", 1, 2);
        refused("up{1;", 1, 2);
        refused("Up 1;", 1, 0);
        refused("uP 1;", 2, 0);
        refused("upz 1;", 2, 0);
        refused("upa 1;", 2, 0);
        says("TOKENS: NUMBERS: the bytes next to 0 and 9 are none of it");
        refused("up /;", 1, 3);
        refused("up :;", 1, 3);
        refused("up 1/;", 1, 4);
        refused("up 1:;", 1, 4);
        refused("up -1;", 1, 3);
        says("TOKENS: one ;");
        refused("up 1;;", 2, 5);
        refused("up 1<", 1, 4);
        refused(";", 2, 0);
    }

    private static void blanks() {
        says("TOKENS: blanks (32) between, as many as one likes, or none");
        due("house(1, 0)", taken("up1;", 1).house(1, 0), 1);
        due("house(1, 0)", taken("   up   9   ;   ", 1).house(1, 0), 9);
        due("rule(4)", taken("up 1;order ice1 1 1 1;order ice1 1 1 1;pack1 0 ;", 4).rule(4), 5);
        says("TOKENS: each as long as may be: blanks part them");
        refused("u p 1;", 2, 0);
        refused("push 1 0;", 2, 7);
        refused("upup 1;", 2, 0);
        refused("orderice 1 1 1 1;", 2, 0);
        refused("pack 01 2 012;", 1, 10);
        due("rule(2)", taken("push10;", 1).rule(2), 10);
        says("TOKENS: a tab, a line's end is no blank");
        refused("up\t1;", 1, 2);
        refused("up 1;\n", 1, 5);
        refused("up 1;\r", 1, 5);
    }

    private static void figures() {
        says("NUMBERS (1 or 2 figures)");
        due("rule(2)", taken("push 0;", 1).rule(2), 0);
        due("rule(2)", taken("push 00;", 1).rule(2), 0);
        due("rule(2)", taken("push 09;", 1).rule(2), 9);
        due("rule(2)", taken("push 19;", 1).rule(2), 19);
        due("house(1, 0)", taken("up 09;", 1).house(1, 0), 9);
        says("FAULT 1: a NUMBER that is too long (its first byte)");
        refused("push 000;", 1, 5);
        refused("push 009;", 1, 5);
        refused("push 100;", 1, 5);
        refused("push 4294967297;", 1, 5);
        refused("push " + times("9", 155), 1, 5);
        refused("up 001;", 1, 3);
        refused("pack 1 002;", 1, 7);
        refused("order ice 1 1 1 100;", 1, 16);
        says("FAULT 1, ahead of 2: a NUMBER too long where none can stand");
        refused("100", 1, 0);
        refused("up 1 100;", 1, 5);
        refused("order 100", 1, 6);
        refused("99", 2, 0);
    }

    // ---------------------------------------------------------------- numbers' bounds

    private static void minutes() {
        says("Terms 1: MINUTES (1 to 9), of a SLOPE (0 flat, 1 up, 2 down)");
        for (int slope = 0; slope < 3; slope++) {
            int at = ROADS[slope].length() + 1;
            for (int v : new int[] {1, 9}) {
                BasketRound x = taken(ROADS[slope] + " " + v + ";", 1);
                due("house(1, 0)", x.house(1, 0), v);
                due("house(1, 1)", x.house(1, 1), slope);
            }
            for (int v : new int[] {0, 10, 99}) {
                refused(ROADS[slope] + " " + v + ";", 3, at);
            }
            refused(ROADS[slope] + " 00;", 3, at);
        }
    }

    private static void housesAndOrders() {
        says("Terms 1: HOUSES 1 on (6 at most)");
        BasketRound x = taken("road 1;up 2;down 3;road 4;up 5;down 6;", 6);
        due("rule(0)", x.rule(0), 6);
        for (int h = 1; h <= 6; h++) {
            due("house(" + h + ", 0)", x.house(h, 0), h);
            due("house(" + h + ", 1)", x.house(h, 1), (h - 1) % 3);
        }
        says("FAULT 5: the 7th HOUSE (its NAME)");
        for (String road : ROADS) {
            refused(times("up 1;", 6) + " " + road + " 1;", 5, 31);
            refused(times("up 1;", 6) + road, 5, 30);
        }
        says("Terms 1: ORDERS (5 at most)");
        due("rule(1)", taken("up 1;" + FIVE_ORDERS, 6).rule(1), 5);
        says("FAULT 5: the 6th order (its NAME)");
        refused("up 1;" + FIVE_ORDERS + "order ice 1 1 1 1;", 5, 95);
        refused("up 1;" + FIVE_ORDERS + "  order", 5, 97);
        says("FAULT 5: other lines may follow 6 HOUSES, 5 ORDERS");
        taken(times("up 1;", 6) + FIVE_ORDERS + "push 1;pack 4;", 13);
    }

    private static void orderFigures() {
        int[] least = {1, 1, 0, 0};
        int[] most = {6, 9, 9, 99};
        String[] names = {"HOUSE (1 to 6)", "WEIGHT (1 to 9)", "PENNY (0 to 9)", "DUE (0 to 99)"};
        for (int which = 0; which < 4; which++) {
            says("Terms 1: " + names[which]);
            for (int v : new int[] {least[which], most[which]}) {
                due("order(0, " + (which + 1) + ")", taken(times("up 1;", 6) + orderWith(which, v), 7).order(0, which + 1), v);
            }
            int at = 30 + 10 + 2 * which;
            if (least[which] > 0) {
                refused(times("up 1;", 6) + orderWith(which, least[which] - 1), 3, at);
            }
            refused(times("up 1;", 6) + orderWith(which, most[which] + 1), which == 3 ? 1 : 3, at);
        }
    }

    private static String orderWith(int which, int v) {
        StringBuilder line = new StringBuilder("order ice");
        for (int i = 0; i < 4; i++) {
            line.append(' ').append(i == which ? v : 1);
        }
        return line.append(';').toString();
    }

    private static void kinds() {
        says("Terms 1: K: plain, eggs, ice, soda, paraffin, a KIND (0 to 4)");
        for (int kind = 0; kind < 5; kind++) {
            due("order(0, 0)", taken("up 1;order " + KINDS[kind] + " 1 1 1 1;", 2).order(0, 0), kind);
        }
        says("FAULT 2: a NAME that is no K");
        for (String name : new String[] {"plai", "plains", "egg", "eggss", "ic", "ices", "sod", "sodas", "paraffi",
            "paraffins", "order", "road", "a", "z"}) {
            refused("up 1;order " + name + " 1 1 1 1;", 2, 11);
        }
        refused("order 1 1 1 1;", 2, 6);
        refused("order ;", 2, 6);
        says("FAULT 2: a NAME that begins no line");
        for (String name : new String[] {"roa", "roads", "u", "ups", "dow", "downs", "orde", "orders", "pus", "pushs", "star",
            "starts", "pac", "packs", "roun", "rounds", "ice", "a", "z"}) {
            refused(name + " 1;", 2, 0);
            refused("up 1; " + name + " 1;", 2, 6);
        }
    }

    private static void letters() {
        for (String name : new String[] {"road", "up", "down", "order", "push", "start", "pack", "round"}) {
            says("FAULT 2: a NAME that begins no line: " + name + " with another letter");
            for (int i = 0; i < name.length(); i++) {
                refused(withAnother(name, i) + " 1;", 2, 0);
            }
        }
        for (String kind : KINDS) {
            says("FAULT 2: a NAME that is no K: " + kind + " with another letter");
            for (int i = 0; i < kind.length(); i++) {
                refused("up 1;order " + withAnother(kind, i) + " 1 1 1 1;", 2, 11);
            }
        }
    }

    private static String withAnother(String name, int i) {
        char other = name.charAt(i) == 'z' ? 'a' : (char) (name.charAt(i) + 1);
        return name.substring(0, i) + other + name.substring(i + 1);
    }

    private static void pushAndStart() {
        says("Terms 1: PUSH (0 to 60; 10 at first)");
        for (int v : new int[] {0, 1, 59, 60}) {
            due("rule(2)", taken("push " + v + ";", 1).rule(2), v);
        }
        refused("push 61;", 3, 5);
        refused("push 99;", 3, 5);
        due("rule(2) not told", taken("start 5;", 1).rule(2), 10);
        says("Terms 1: START (0 to 60; 0)");
        for (int v : new int[] {0, 1, 59, 60}) {
            due("rule(3)", taken("start " + v + ";", 1).rule(3), v);
        }
        refused("start 61;", 3, 6);
        refused("start 99;", 3, 6);
        due("rule(3) not told", taken("push 5;", 1).rule(3), 0);
    }

    private static void rows() {
        String shop = "up 1;" + FIVE_ORDERS;
        String[] names = {"pack", "round"};
        for (int i = 0; i < 2; i++) {
            says("Terms 1: " + names[i] + ": ORDERS (0 to 4) that come first; all others behind them by order");
            due("none told", taken(shop + names[i] + ";", 7).rule(4 + i), base5(0, 1, 2, 3, 4));
            due("one told", taken(shop + names[i] + " 4;", 7).rule(4 + i), base5(4, 0, 1, 2, 3));
            due("one told", taken(shop + names[i] + " 0;", 7).rule(4 + i), base5(0, 1, 2, 3, 4));
            due("four told", taken(shop + names[i] + " 4 3 1 0;", 7).rule(4 + i), base5(4, 3, 1, 0, 2));
            due("all told", taken(shop + names[i] + " 4 3 2 1 0;", 7).rule(4 + i), base5(4, 3, 2, 1, 0));
            due("told ahead", taken(names[i] + " 3 04 ;" + shop, 7).rule(4 + i), base5(3, 4, 0, 1, 2));
            due("the other one", taken(shop + names[i] + " 4 3 2 1 0;", 7).rule(5 - i), base5(0, 1, 2, 3, 4));
            says("FAULT 3: an ORDER out of 0 to 4");
            refused(shop + names[i] + " 5;", 3, 95 + names[i].length() + 1);
            refused(shop + names[i] + " 99;", 3, 95 + names[i].length() + 1);
            refused(shop + names[i] + " 4 3 2 1 0 5;", 3, 95 + names[i].length() + 11);
        }
    }

    private static int base5(int... row) {
        int number = 0;
        for (int o : row) {
            number = number * 5 + o;
        }
        return number;
    }

    // ---------------------------------------------------------------- faults 2, 4, 6, and which is met first

    private static void notHere() {
        says("FAULT 2: a TOKEN that can not stand there");
        refused("1;", 2, 0);
        refused("up;", 2, 2);
        refused("up up;", 2, 3);
        refused("up 1 1;", 2, 5);
        refused("up 1 up;", 2, 5);
        refused("order ice;", 2, 9);
        refused("order ice 1;", 2, 11);
        refused("order ice 1 1;", 2, 13);
        refused("order ice 1 1 1;", 2, 15);
        refused("order ice 1 1 1 1 1;", 2, 18);
        refused("order ice ice 1 1 1;", 2, 10);
        refused("order ice 1 1 1 ice;", 2, 16);
        refused("push;", 2, 4);
        refused("push up;", 2, 5);
        refused("push 1 1;", 2, 7);
        refused("start;", 2, 5);
        refused("start 1 1;", 2, 8);
        refused("pack ice;", 2, 5);
        refused("pack 0 ice;", 2, 7);
        refused("round up;", 2, 6);
    }

    private static void endsTooSoon() {
        says("FAULT 2: the end: the length");
        for (String text : new String[] {"road", "road 1", "up", "up 1", "down", "down 1", "order", "order ice", "order ice 1",
            "order ice 1 1", "order ice 1 1 1", "order ice 1 1 1 1", "push", "push 1", "start", "start 1", "pack", "pack 0",
            "pack 0 1 2 3 4", "round", "round 0"}) {
            refused(text, 2, text.length());
            refused(text + "  ", 2, text.length() + 2);
            refused("up 1;" + text, 2, text.length() + 5);
        }
    }

    private static void twice() {
        says("FAULT 4: push, start, pack, round for the second time (its NAME)");
        String[] lines = {"push 1;", "start 1;", "pack ;", "round ;"};
        for (String line : lines) {
            String name = line.substring(0, line.indexOf(' '));
            refused(line + line, 4, line.length());
            refused(line + "up 1;  " + name, 4, line.length() + 7);
            for (String other : lines) {
                if (!other.equals(line)) {
                    taken(line + other, 2);
                    refused(line + other + line, 4, line.length() + other.length());
                }
            }
        }
        says("FAULT 4: an ORDER told in pack, in round already (it)");
        refused("pack 0 0;", 4, 7);
        refused("pack 0 00;", 4, 7);
        refused("pack 4 3 2 1 0 4;", 4, 15);
        refused("pack 4 3 2 1 0 0;", 4, 15);
        refused("round 4 4;", 4, 8);
        refused("round 0 1 2 3 1;", 4, 14);
        says("FAULT 4: told in pack is not told in round");
        taken("up 1;" + FIVE_ORDERS + "pack 0 1;round 0 1;", 8);
    }

    private static void missing() {
        says("FAULT 6: a HOUSE that there is not (the length)");
        refused("order ice 1 1 1 1;", 6, 18);
        refused("order ice 2 1 1 1;up 1;", 6, 23);
        refused("order ice 2 1 1 1;up 1;  ", 6, 25);
        refused(times("up 1;", 5) + "order ice 6 1 1 1;", 6, 43);
        refused(times("up 1;", 5) + "order ice 5 1 1 1;order ice 6 1 1 1;", 6, 61);
        refused(times("up 1;", 5) + "order ice 6 1 1 1;order ice 5 1 1 1;", 6, 61);
        taken(times("up 1;", 5) + "order ice 5 1 1 1;", 6);
        taken("order ice 2 1 1 1;up 1;up 1;", 3);
        says("FAULT 6: an ORDER that there is not (the length)");
        for (String name : new String[] {"pack", "round"}) {
            refused(name + " 0;", 6, name.length() + 3);
            refused("up 1;" + name + " 0;", 6, name.length() + 8);
            refused("up 1;order ice 1 1 1 1;" + name + " 1;", 6, name.length() + 26);
            refused("up 1;order ice 1 1 1 1;" + name + " 0 1;", 6, name.length() + 28);
            refused("up 1;order ice 1 1 1 1;" + name + " 4 0;", 6, name.length() + 28);
            taken("up 1;order ice 1 1 1 1;" + name + " 0;", 3);
            taken(name + " 1;up 1;order ice 1 1 1 1;order ice 1 1 1 1;", 4);
        }
    }

    private static void firstMet() {
        says("FAULTS, the first met as it is read (a TOKEN is read when the one before has been taken)");
        refused("zz $", 2, 0);
        refused("up 0$", 3, 3);
        refused("up 0 zz", 3, 3);
        refused("up 1 1$", 2, 5);
        refused("up 1$ zz", 1, 4);
        refused("order cat $", 2, 6);
        refused("order $ cat", 1, 6);
        refused("order ice 0 0 100", 3, 10);
        refused("pack 0 0$", 4, 7);
        refused("pack 0 5 0", 3, 7);
        refused("pack 0 0 5", 4, 7);
        refused("pack 0 $ 0", 1, 7);
        refused("push 1;push 99;", 4, 7);
        refused("push 1;push $", 4, 7);
        refused("push 99;push 1;", 3, 5);
        refused(times("up 1;", 6) + "up 0;", 5, 30);
        refused(times("up 1;", 6) + "up $", 5, 30);
        says("Behind all: 6");
        refused("order ice 6 1 1 1;$", 1, 18);
        refused("order ice 6 1 1 1;zz", 2, 18);
        refused("order ice 6 1 1 1;up 0;", 3, 21);
        refused("pack 4;pack", 4, 7);
        refused("pack 4;" + times("up 1;", 7), 5, 37);
        refused("order ice 6 1 1 1;up 1", 2, 22);
    }
}

import java.util.Arrays;

/**
 * A boy on a bicycle with a basket: the road, the orders, his round and what comes of it.
 * The numbered promises of DOC.md say what each call answers.
 *
 * <p>All rows are made by the constructor and used again: no call makes an object.
 */
public final class BasketRound {
    public static final int BAD = -1, STATE = -2, FULL = -3, NONE = -4;

    private static final int MOST_BYTES = 160, MOST_HOUSES = 6, MOST_ORDERS = 5, MOST_SEEN = 6;
    private static final int MOST_IMAGES = 2, MOST_SHEETS = 4, MOST_CELLS = 40, MOST_READ = 20;
    private static final int MOST_PUSH = 60, MOST_START = 60, MOST_WEIGHT = 60, FIRST_PUSH = 10;

    private static final int MINUTES = 0, SLOPE = 1, HOUSE_FIGURES = 2;
    private static final int FLAT = 0, UP = 1, DOWN = 2;

    private static final int KIND = 0, HOUSE = 1, WEIGHT = 2, PENNY = 3, DUE = 4, ORDER_FIGURES = 5;
    private static final int PLAIN = 0, EGGS = 1, ICE = 2, SODA = 3, PARAFFIN = 4;

    private static final int EGGS_BEAR = 5, ICE_LASTS = 20;

    private static final int NULL_FAULT = 1, INDEX_FAULT = 2, CAST_FAULT = 3, SIZE_FAULT = 4;

    private final Tape tape;
    private final Shop shop;
    private final Reader reader;
    private final Trip trip;
    private final Choice choice;
    private final Seen seen;
    private final Shop[] images;
    private final boolean[] kept;
    private final Sheets sheets;
    private int textFault;
    private int readFault;

    public BasketRound() {
        tape = new Tape();
        shop = new Shop();
        reader = new Reader(tape);
        trip = new Trip(shop);
        choice = new Choice();
        seen = new Seen();
        images = new Shop[] {new Shop(), new Shop()};
        kept = new boolean[MOST_IMAGES];
        sheets = new Sheets();
    }

    // ---- the text, what there is

    public int feed(int c) {
        if (!within(c, 0, 127)) {
            return BAD;
        }
        if (tape.length >= MOST_BYTES) {
            return FULL;
        }
        tape.bytes[tape.length] = (byte) c;
        tape.length++;
        return tape.length;
    }

    public int end(int n) {
        if (!within(n, 0, tape.length)) {
            return BAD;
        }
        int had = tape.length;
        tape.length = n;
        return had;
    }

    public int text() {
        reader.readTape();
        tape.length = 0;
        textFault = reader.fault;
        if (textFault != 0) {
            return -10 - reader.faultPlace;
        }
        shop.become(reader.draft);
        seen.size = 0;
        for (int k = 0; k < MOST_IMAGES; k++) {
            kept[k] = false;
        }
        return reader.lines;
    }

    public int fault() {
        return textFault;
    }

    public int rule(int what) {
        switch (what) {
            case 0: return shop.houses;
            case 1: return shop.orders;
            case 2: return shop.push;
            case 3: return shop.start;
            case 4: return numberOf(shop.packed, shop.orders);
            case 5: return numberOf(shop.round, shop.orders);
            case 6: return shop.sum(WEIGHT);
            default: return BAD;
        }
    }

    public int house(int h, int what) {
        if (!within(h, 1, shop.houses) || !within(what, MINUTES, SLOPE)) {
            return BAD;
        }
        return shop.ofHouse(h, what);
    }

    public int order(int o, int what) {
        if (!isOrder(o) || !within(what, 0, 6)) {
            return BAD;
        }
        if (what < ORDER_FIGURES) {
            return shop.ofOrder(o, what);
        }
        return placeOf(what == 5 ? shop.packed : shop.round, shop.orders, o);
    }

    // ---- what is changed

    public int set(int what, int v) {
        if (!within(what, 0, 1) || !within(v, 0, what == 0 ? MOST_PUSH : MOST_START)) {
            return BAD;
        }
        int was = what == 0 ? shop.push : shop.start;
        if (what == 0) {
            shop.push = v;
        } else {
            shop.start = v;
        }
        return was;
    }

    public int pack(int o, int p) {
        return exchangeOrders(shop.packed, o, p);
    }

    public int swap(int o, int p) {
        return exchangeOrders(shop.round, o, p);
    }

    public int top(int o) {
        return bringAhead(shop.packed, o);
    }

    public int first(int o) {
        return bringAhead(shop.round, o);
    }

    public int ask(int o, int what, int v) {
        if (!within(what, PENNY, DUE)) {
            return BAD;
        }
        return changeOrder(o, what, v);
    }

    public int turn(int o, int kind) {
        return changeOrder(o, KIND, kind);
    }

    public int weigh(int o, int v) {
        return changeOrder(o, WEIGHT, v);
    }

    // ---- a round

    public int way(int a, int b, int weight) {
        if (!within(a, 0, shop.houses) || !within(b, 0, shop.houses) || !within(weight, 0, MOST_WEIGHT)) {
            return BAD;
        }
        return shop.minutesBetween(a, b, weight > shop.push);
    }

    public int time(int o) {
        if (!isOrder(o)) {
            return BAD;
        }
        goRound();
        return trip.times[o];
    }

    public int back() {
        goRound();
        return trip.home;
    }

    public int spoilt() {
        goRound();
        return trip.spoiltBits;
    }

    public int late() {
        goRound();
        return trip.lateBits;
    }

    public int pennies() {
        goRound();
        return trip.gained;
    }

    public int spent(int what) {
        if (!within(what, 0, 2)) {
            return BAD;
        }
        goRound();
        switch (what) {
            case 0: return trip.dug;
            case 1: return trip.gone;
            default: return trip.atDoors;
        }
    }

    // ---- the best

    public int best(int what) {
        if (!within(what, 0, 3)) {
            return BAD;
        }
        findBest();
        switch (what) {
            case 0: return choice.pennies;
            case 1: return choice.home;
            case 2: return choice.round;
            default: return choice.other;
        }
    }

    public int packing(int what) {
        if (!within(what, 0, 2)) {
            return BAD;
        }
        choice.clear();
        trip.take(allBits(), shop.start);
        trip.ride();
        tryPackings();
        switch (what) {
            case 0: return choice.pennies;
            case 1: return choice.home;
            default: return choice.other;
        }
    }

    public int soonest(int what) {
        if (!within(what, 0, 1)) {
            return BAD;
        }
        int n = shop.orders;
        int many = arrangements(n);
        int least = 0;
        int which = 0;
        takeRoundsFromFirst();
        for (int r = 0; r < many; r++) {
            trip.ride();
            trip.finish();
            if (r == 0 || trip.home < least) {
                least = trip.home;
                which = numberOf(trip.calls, n);
            }
            toNextArrangement(trip.calls, n);
        }
        return what == 0 ? least : which;
    }

    public int two(int set, int what) {
        if (!within(set, 0, allBits()) || !within(what, 0, 1)) {
            return BAD;
        }
        int gained = goTwice(set);
        return what == 0 ? gained : trip.home;
    }

    public int split(int what) {
        if (!within(what, 0, 2)) {
            return BAD;
        }
        choice.clear();
        int all = allBits();
        for (int bits = 0; bits <= all; bits++) {
            int gained = goTwice(bits);
            if (choice.isBeatenBy(gained, trip.home)) {
                choice.become(gained, trip.home, 0, bits);
            }
        }
        switch (what) {
            case 0: return choice.other;
            case 1: return choice.pennies;
            default: return choice.home;
        }
    }

    public int strength() {
        trip.take(allBits(), shop.start);
        trip.stow();
        for (int v = 0; v <= MOST_PUSH; v++) {
            trip.push = v;
            trip.ride();
            trip.finish();
            if (trip.lateBits == 0) {
                return v;
            }
        }
        return NONE;
    }

    public int latest() {
        trip.take(allBits(), shop.start);
        trip.stow();
        for (int v = MOST_START; v >= 0; v--) {
            trip.start = v;
            trip.ride();
            trip.finish();
            if (trip.lateBits == 0) {
                return v;
            }
        }
        return NONE;
    }

    public int leave(int what) {
        if (!within(what, 0, 1)) {
            return BAD;
        }
        goRound();
        int all = allBits();
        int had = trip.paidBits();
        int which = NONE;
        int most = NONE;
        for (int o = 0; o < shop.orders; o++) {
            int others = all & ~(1 << o);
            int without = goSome(others, shop.start);
            if (without > shop.penniesOf(had & others) && without > most) {
                which = o;
                most = without;
            }
        }
        return what == 0 ? which : most;
    }

    // ---- nobody in

    public long mean(int v, int what) {
        if (!within(v, 0, 10) || !within(what, 0, 1)) {
            return BAD;
        }
        goRound();
        return partOfFraction((long) trip.gained * (10 - v), 10, what);
    }

    public long luck(int v, int k, int what) {
        if (!within(v, 0, 10) || !within(k, 0, 9 * MOST_ORDERS) || !within(what, 0, 1)) {
            return BAD;
        }
        goRound();
        int had = trip.paidBits();
        int all = allBits();
        long ways = 0;
        for (int in = 0; in <= all; in++) {
            if (shop.penniesOf(in & had) >= k) {
                int doors = Integer.bitCount(in);
                ways += power(10 - v, doors) * power(v, shop.orders - doors);
            }
        }
        return partOfFraction(ways, power(10, shop.orders), what);
    }

    // ---- which way he went

    public int see(int o, int time) {
        if (!isOrder(o) || !within(time, 0, 199)) {
            return BAD;
        }
        if (seen.size >= MOST_SEEN) {
            return FULL;
        }
        seen.add(o, time);
        return seen.size;
    }

    public int forget(int n) {
        if (!within(n, 0, seen.size)) {
            return BAD;
        }
        int were = seen.size;
        seen.size = n;
        return were;
    }

    public int fits(int what) {
        if (!within(what, 0, 2)) {
            return BAD;
        }
        int n = shop.orders;
        int many = arrangements(n);
        int fitting = 0;
        int which = NONE;
        int firsts = 0;
        takeRoundsFromFirst();
        for (int r = 0; r < many; r++) {
            trip.ride();
            trip.finish();
            if (seen.agreesWith(trip.times)) {
                which = fitting == 0 ? numberOf(trip.calls, n) : which;
                firsts |= n == 0 ? 0 : 1 << trip.calls[0];
                fitting++;
            }
            toNextArrangement(trip.calls, n);
        }
        switch (what) {
            case 0: return fitting;
            case 1: return which;
            default: return firsts;
        }
    }

    // ---- by a seed

    public int drift(int seed, int n, int what) {
        if (!within(n, 1, 60) || !within(what, 0, 1)) {
            return BAD;
        }
        if (shop.orders <= 0) {
            return STATE;
        }
        int most = 0;
        int least = 0;
        int s = seed;
        trip.take(allBits(), shop.start);
        trip.stow();
        for (int i = 0; i < n; i++) {
            s = s * 1103515245 + 12345;
            moveAhead(trip.calls, shop.orders, ((s >>> 16) & 0x7FFF) % shop.orders);
            trip.ride();
            trip.finish();
            most = Math.max(most, trip.gained);
            least = i == 0 ? trip.home : Math.min(least, trip.home);
        }
        return what == 0 ? most : least;
    }

    // ---- images, sheets

    public int keep(int k) {
        if (!within(k, 0, MOST_IMAGES - 1)) {
            return BAD;
        }
        int was = kept[k] ? 1 : 0;
        images[k].become(shop);
        kept[k] = true;
        return was;
    }

    public int undo(int k) {
        if (!within(k, 0, MOST_IMAGES - 1)) {
            return BAD;
        }
        if (!kept[k]) {
            return STATE;
        }
        shop.become(images[k]);
        return shop.start;
    }

    public int sheet(int k, int lane, int n) {
        if (!within(k, 0, MOST_SHEETS - 1) || !within(lane, 0, 2) || n > MOST_CELLS) {
            return BAD;
        }
        if (n < 0) {
            return -10 - SIZE_FAULT;
        }
        sheets.renew(k, lane, n);
        return 1;
    }

    public int lay(int k, int i, int v) {
        if (!within(k, 0, MOST_SHEETS - 1)) {
            return BAD;
        }
        int found = sheets.faultAt(k, sheets.lanes[k], i);
        if (found != 0) {
            return -10 - found;
        }
        sheets.put(k, i, v);
        return 1;
    }

    public int read(int k, int lane, int f, int n) {
        if (!within(k, 0, MOST_SHEETS - 1) || !within(lane, 0, 2) || !within(n, 0, MOST_READ)) {
            return BAD;
        }
        int found = 0;
        int whole = 0;
        for (int i = 0; i < n && found == 0; i++) {
            found = sheets.faultOfPair(k, lane, f, i);
            if (found == 0) {
                if (!isOrder(sheets.cell(k, f + 2 * i)) || !isOrder(sheets.cell(k, f + 2 * i + 1))) {
                    return -20 - i;
                }
                whole++;
            }
        }
        for (int i = 0; i < whole; i++) {
            exchangeOrders(shop.round, sheets.cell(k, f + 2 * i), sheets.cell(k, f + 2 * i + 1));
        }
        readFault = found;
        return whole;
    }

    public int torn() {
        return readFault;
    }

    public int count(int what) {
        switch (what) {
            case 0: return seen.size;
            case 1: return (kept[0] ? 1 : 0) + (kept[1] ? 1 : 0);
            case 2: return tape.length;
            case 3: return sheets.sizes[0] < 0 ? NONE : sheets.sizes[0];
            case 4: return shop.sum(PENNY);
            case 5: return shop.minutesBetween(0, shop.houses, false);
            default: return BAD;
        }
    }

    // ---- what several calls need

    private boolean isOrder(int o) {
        return within(o, 0, shop.orders - 1);
    }

    private int allBits() {
        return (1 << shop.orders) - 1;
    }

    private int exchangeOrders(int[] row, int o, int p) {
        if (!isOrder(o) || !isOrder(p)) {
            return BAD;
        }
        int n = shop.orders;
        int i = placeOf(row, n, o);
        int j = placeOf(row, n, p);
        row[i] = p;
        row[j] = o;
        return numberOf(row, n);
    }

    private int bringAhead(int[] row, int o) {
        if (!isOrder(o)) {
            return BAD;
        }
        moveAhead(row, shop.orders, o);
        return numberOf(row, shop.orders);
    }

    private int changeOrder(int o, int what, int v) {
        if (!isOrder(o) || !within(v, leastOf(what), mostOf(what))) {
            return BAD;
        }
        int was = shop.ofOrder(o, what);
        shop.list[o * ORDER_FIGURES + what] = v;
        return was;
    }

    private void goRound() {
        goSome(allBits(), shop.start);
    }

    /** The pennies of a round with these orders alone. */
    private int goSome(int bits, int start) {
        trip.take(bits, start);
        trip.ride();
        trip.stow();
        trip.finish();
        return trip.gained;
    }

    /** The pennies of two rounds, these orders first; the trip is then the second one. */
    private int goTwice(int bits) {
        int gained = goSome(bits, shop.start);
        return gained + goSome(allBits() & ~bits, trip.home);
    }

    private void takeRoundsFromFirst() {
        trip.take(allBits(), shop.start);
        trip.stow();
        layByOrder(trip.calls, shop.orders);
    }

    private void findBest() {
        int n = shop.orders;
        int many = arrangements(n);
        choice.clear();
        trip.take(allBits(), shop.start);
        layByOrder(trip.calls, n);
        for (int r = 0; r < many; r++) {
            trip.ride();
            // No packing does better than a basket in which nothing lies on anything,
            // so a round that would not win even so needs none of its packings tried.
            trip.stowLoose();
            trip.finish();
            if (choice.isBeatenBy(trip.gained, trip.home)) {
                tryPackings();
            }
            toNextArrangement(trip.calls, n);
        }
    }

    private void tryPackings() {
        int n = shop.orders;
        int many = arrangements(n);
        layByOrder(trip.load, n);
        for (int r = 0; r < many; r++) {
            trip.stow();
            trip.finish();
            if (choice.isBeatenBy(trip.gained, trip.home)) {
                choice.become(trip.gained, trip.home, numberOf(trip.calls, n), numberOf(trip.load, n));
            }
            toNextArrangement(trip.load, n);
        }
    }

    private static boolean within(int v, int least, int most) {
        return v >= least && v <= most;
    }

    private static int leastOf(int what) {
        return what == HOUSE || what == WEIGHT ? 1 : 0;
    }

    private static int mostOf(int what) {
        switch (what) {
            case KIND: return PARAFFIN;
            case HOUSE: return MOST_HOUSES;
            case DUE: return 99;
            default: return 9;
        }
    }

    private static int numberOf(int[] row, int n) {
        int number = 0;
        for (int i = 0; i < n; i++) {
            number = number * 5 + row[i];
        }
        return number;
    }

    private static int placeOf(int[] row, int n, int o) {
        int place = 0;
        for (int i = 0; i < n; i++) {
            if (row[i] == o) {
                place = i;
            }
        }
        return place;
    }

    private static void moveAhead(int[] row, int n, int o) {
        for (int i = placeOf(row, n, o); i > 0; i--) {
            row[i] = row[i - 1];
        }
        row[0] = o;
    }

    private static void layByOrder(int[] row, int n) {
        for (int i = 0; i < n; i++) {
            row[i] = i;
        }
    }

    /** In how many ways n orders stand in a row. */
    private static int arrangements(int n) {
        int many = 1;
        for (int i = 2; i <= n; i++) {
            many *= i;
        }
        return many;
    }

    /** The next arrangement by numbers; the last one stays. */
    private static void toNextArrangement(int[] row, int n) {
        int i = n - 2;
        while (i >= 0 && row[i] > row[i + 1]) {
            i--;
        }
        if (i < 0) {
            return;
        }
        int j = n - 1;
        while (j > i + 1 && row[j] < row[i]) {
            j--;
        }
        exchangePlaces(row, i, j);
        for (int a = i + 1, b = n - 1; a < b; a++, b--) {
            exchangePlaces(row, a, b);
        }
    }

    private static void exchangePlaces(int[] row, int i, int j) {
        int v = row[i];
        row[i] = row[j];
        row[j] = v;
    }

    private static long power(long base, int times) {
        long product = 1;
        for (int i = 0; i < times; i++) {
            product *= base;
        }
        return product;
    }

    /** The numerator (what 0) or the denominator (1) of a fraction in lowest terms. */
    private static long partOfFraction(long top, long below, int what) {
        long a = below;
        long b = top;
        for (int i = 0; i < 100 && b != 0; i++) {
            long rest = a % b;
            a = b;
            b = rest;
        }
        if (a == 0) {
            return 0;
        }
        return what == 0 ? top / a : below / a;
    }

    // ---- the parts

    private static final class Tape {
        final byte[] bytes = new byte[MOST_BYTES];
        int length;
    }

    /** All that a text tells; an image is one more of these. */
    private static final class Shop {
        final int[] road = new int[MOST_HOUSES * HOUSE_FIGURES];
        final int[] list = new int[MOST_ORDERS * ORDER_FIGURES];
        final int[] packed = new int[MOST_ORDERS];
        final int[] round = new int[MOST_ORDERS];
        int houses;
        int orders;
        int push = FIRST_PUSH;
        int start;

        void clear() {
            houses = 0;
            orders = 0;
            push = FIRST_PUSH;
            start = 0;
        }

        void become(Shop from) {
            System.arraycopy(from.road, 0, road, 0, road.length);
            System.arraycopy(from.list, 0, list, 0, list.length);
            System.arraycopy(from.packed, 0, packed, 0, packed.length);
            System.arraycopy(from.round, 0, round, 0, round.length);
            houses = from.houses;
            orders = from.orders;
            push = from.push;
            start = from.start;
        }

        int ofHouse(int h, int what) {
            return road[(h - 1) * HOUSE_FIGURES + what];
        }

        int ofOrder(int o, int what) {
            return list[o * ORDER_FIGURES + what];
        }

        int sum(int what) {
            int all = 0;
            for (int o = 0; o < orders; o++) {
                all += ofOrder(o, what);
            }
            return all;
        }

        int penniesOf(int bits) {
            int all = 0;
            for (int o = 0; o < orders; o++) {
                if ((bits >> o & 1) == 1) {
                    all += ofOrder(o, PENNY);
                }
            }
            return all;
        }

        int minutesBetween(int from, int to, boolean heavy) {
            // What goes down as one leaves the shop goes up as one comes back.
            int hard = from < to ? UP : DOWN;
            int minutes = 0;
            for (int h = Math.min(from, to) + 1; h <= Math.max(from, to); h++) {
                boolean pushes = heavy && ofHouse(h, SLOPE) == hard;
                minutes += ofHouse(h, MINUTES) * (pushes ? 2 : 1);
            }
            return minutes;
        }
    }

    /**
     * One round of some orders: ride() reckons it without digging, stow() how they lie on one
     * another, finish() puts both together. Searches renew only the part that has changed.
     */
    private static final class Trip {
        final Shop shop;
        final int[] calls = new int[MOST_ORDERS];
        final int[] load = new int[MOST_ORDERS];
        final int[] bareTimes = new int[MOST_ORDERS];
        final int[] above = new int[MOST_ORDERS];
        final int[] times = new int[MOST_ORDERS];
        int size;
        int push;
        int start;
        int crushedBits;
        int gone;
        int atDoors;
        int dug;
        int home;
        int spoiltBits;
        int lateBits;
        int gained;

        Trip(Shop shop) {
            this.shop = shop;
        }

        void take(int bits, int minute) {
            push = shop.push;
            start = minute;
            size = pick(shop.round, bits, calls);
            pick(shop.packed, bits, load);
        }

        private int pick(int[] row, int bits, int[] into) {
            int picked = 0;
            for (int i = 0; i < shop.orders; i++) {
                if ((bits >> row[i] & 1) == 1) {
                    into[picked] = row[i];
                    picked++;
                }
            }
            return picked;
        }

        void ride() {
            int weight = 0;
            for (int i = 0; i < size; i++) {
                weight += shop.ofOrder(calls[i], WEIGHT);
            }
            gone = 0;
            atDoors = 0;
            int at = 0;
            for (int i = 0; i < size; i++) {
                int o = calls[i];
                gone += shop.minutesBetween(at, shop.ofOrder(o, HOUSE), weight > push);
                atDoors += shop.ofOrder(o, KIND) == SODA ? 2 : 1;
                bareTimes[i] = start + gone + atDoors;
                weight -= shop.ofOrder(o, WEIGHT);
                at = shop.ofOrder(o, HOUSE);
            }
            gone += shop.minutesBetween(at, 0, weight > push);
        }

        void stow() {
            crushedBits = 0;
            int weight = 0;
            int bits = 0;
            boolean underParaffin = false;
            for (int i = 0; i < size; i++) {
                int o = load[i];
                int kind = shop.ofOrder(o, KIND);
                if (underParaffin || kind == EGGS && weight > EGGS_BEAR) {
                    crushedBits |= 1 << o;
                }
                above[o] = bits;
                bits |= 1 << o;
                weight += shop.ofOrder(o, WEIGHT);
                underParaffin = kind == PARAFFIN;
            }
        }

        void stowLoose() {
            crushedBits = 0;
            Arrays.fill(above, 0);
        }

        void finish() {
            int inBasket = 0;
            for (int i = 0; i < size; i++) {
                inBasket |= 1 << calls[i];
            }
            dug = 0;
            spoiltBits = crushedBits;
            lateBits = 0;
            for (int i = 0; i < size; i++) {
                int o = calls[i];
                dug += Integer.bitCount(above[o] & inBasket);
                inBasket &= ~(1 << o);
                times[o] = bareTimes[i] + dug;
                if (shop.ofOrder(o, KIND) == ICE && times[o] - start > ICE_LASTS) {
                    spoiltBits |= 1 << o;
                }
                if (times[o] > shop.ofOrder(o, DUE)) {
                    lateBits |= 1 << o;
                }
            }
            home = start + gone + atDoors + dug;
            gained = shop.penniesOf(paidBits());
        }

        int paidBits() {
            int bits = 0;
            for (int i = 0; i < size; i++) {
                bits |= 1 << calls[i];
            }
            return bits & ~spoiltBits & ~lateBits;
        }
    }

    /** The best that has been met: as they are tried by numbers, an equal one comes too late. */
    private static final class Choice {
        boolean met;
        int pennies;
        int home;
        int round;
        int other;

        void clear() {
            met = false;
        }

        boolean isBeatenBy(int gained, int minute) {
            return !met || gained > pennies || gained == pennies && minute < home;
        }

        void become(int gained, int minute, int roundNumber, int otherNumber) {
            met = true;
            pennies = gained;
            home = minute;
            round = roundNumber;
            other = otherNumber;
        }
    }

    private static final class Seen {
        final int[] which = new int[MOST_SEEN];
        final int[] minutes = new int[MOST_SEEN];
        int size;

        void add(int o, int minute) {
            which[size] = o;
            minutes[size] = minute;
            size++;
        }

        boolean agreesWith(int[] times) {
            boolean all = true;
            for (int i = 0; i < size; i++) {
                all = all && times[which[i]] == minutes[i];
            }
            return all;
        }
    }

    private static final class Sheets {
        final int[][] cells = new int[MOST_SHEETS][MOST_CELLS];
        final int[] lanes = new int[MOST_SHEETS];
        final int[] sizes = new int[] {-1, -1, -1, -1};

        void renew(int k, int lane, int n) {
            Arrays.fill(cells[k], 0);
            lanes[k] = lane;
            sizes[k] = n;
        }

        int faultAt(int k, int lane, long i) {
            if (sizes[k] < 0) {
                return NULL_FAULT;
            }
            if (lanes[k] != lane) {
                return CAST_FAULT;
            }
            return i < 0 || i >= sizes[k] ? INDEX_FAULT : 0;
        }

        int faultOfPair(int k, int lane, int f, int i) {
            // A long, because f may stand close to the greatest int.
            long at = (long) f + 2L * i;
            int found = faultAt(k, lane, at);
            return found != 0 ? found : faultAt(k, lane, at + 1);
        }

        int cell(int k, int i) {
            return cells[k][i];
        }

        void put(int k, int i, int v) {
            switch (lanes[k]) {
                case 0: cells[k][i] = (byte) v; break;
                case 1: cells[k][i] = (short) v; break;
                default: cells[k][i] = v; break;
            }
        }
    }

    /** Reads the tape into a draft; the first fault that it meets is kept, with its place. */
    private static final class Reader {
        private static final int END = 0, NAME = 1, NUMBER = 2, SEMICOLON = 3;
        private static final int NO_TOKEN = 1, NOT_HERE = 2, OUT_OF_BOUNDS = 3, TWICE = 4, TOO_MANY = 5, MISSING = 6;
        private static final int PUSH_LINE = 1, START_LINE = 2, PACK_LINE = 4, ROUND_LINE = 8;

        final Shop draft = new Shop();
        final Tape tape;
        int lines;
        int fault;
        int faultPlace;
        private int token;
        private int place;
        private int next;
        private int value;
        private int toldLines;
        private int toldPacked;
        private int toldRound;

        Reader(Tape tape) {
            this.tape = tape;
        }

        void readTape() {
            draft.clear();
            lines = 0;
            fault = 0;
            faultPlace = 0;
            next = 0;
            toldLines = 0;
            toldPacked = 0;
            toldRound = 0;
            readToken();
            // A line has two bytes or more, so there are fewer lines than bytes.
            for (int i = 0; i <= MOST_BYTES && fault == 0 && token != END; i++) {
                readLine();
                lines++;
            }
            if (fault == 0) {
                findMissing();
            }
            addOthers(draft.packed, toldPacked);
            addOthers(draft.round, toldRound);
        }

        private void fail(int which, int where) {
            if (fault == 0) {
                fault = which;
                faultPlace = where;
            }
        }

        private void readToken() {
            while (next < tape.length && tape.bytes[next] == ' ') {
                next++;
            }
            place = next;
            if (next >= tape.length) {
                token = END;
            } else if (tape.bytes[next] == ';') {
                token = SEMICOLON;
                next++;
            } else if (isLetter(tape.bytes[next])) {
                token = NAME;
                while (next < tape.length && isLetter(tape.bytes[next])) {
                    next++;
                }
            } else if (isFigure(tape.bytes[next])) {
                token = NUMBER;
                value = 0;
                while (next < tape.length && isFigure(tape.bytes[next])) {
                    value = value * 10 + (tape.bytes[next] - '0');
                    next++;
                }
                if (next - place > 2) {
                    fail(NO_TOKEN, place);
                }
            } else {
                fail(NO_TOKEN, place);
            }
        }

        private static boolean isLetter(int c) {
            return c >= 'a' && c <= 'z';
        }

        private static boolean isFigure(int c) {
            return c >= '0' && c <= '9';
        }

        private boolean isNamed(String name) {
            boolean same = token == NAME && next - place == name.length();
            for (int i = 0; same && i < name.length(); i++) {
                same = tape.bytes[place + i] == name.charAt(i);
            }
            return same;
        }

        private void readLine() {
            if (isNamed("road")) {
                readHouse(FLAT);
            } else if (isNamed("up")) {
                readHouse(UP);
            } else if (isNamed("down")) {
                readHouse(DOWN);
            } else if (isNamed("order")) {
                readOrder();
            } else if (isNamed("push")) {
                takeOnce(PUSH_LINE);
                draft.push = takeNumber(0, MOST_PUSH);
            } else if (isNamed("start")) {
                takeOnce(START_LINE);
                draft.start = takeNumber(0, MOST_START);
            } else if (isNamed("pack")) {
                takeOnce(PACK_LINE);
                toldPacked = takeRow(draft.packed);
            } else if (isNamed("round")) {
                takeOnce(ROUND_LINE);
                toldRound = takeRow(draft.round);
            } else {
                fail(NOT_HERE, place);
            }
            takeSemicolon();
        }

        private void takeOnce(int line) {
            if ((toldLines & line) != 0) {
                fail(TWICE, place);
                return;
            }
            toldLines |= line;
            readToken();
        }

        private void readHouse(int slope) {
            if (draft.houses >= MOST_HOUSES) {
                fail(TOO_MANY, place);
                return;
            }
            readToken();
            int at = draft.houses * HOUSE_FIGURES;
            draft.road[at + MINUTES] = takeNumber(1, 9);
            draft.road[at + SLOPE] = slope;
            draft.houses++;
        }

        private void readOrder() {
            if (draft.orders >= MOST_ORDERS) {
                fail(TOO_MANY, place);
                return;
            }
            readToken();
            int at = draft.orders * ORDER_FIGURES;
            draft.list[at + KIND] = takeKind();
            for (int what = HOUSE; what <= DUE; what++) {
                draft.list[at + what] = takeNumber(leastOf(what), mostOf(what));
            }
            draft.orders++;
        }

        private int takeKind() {
            if (fault != 0) {
                return 0;
            }
            int kind = kindNamed();
            if (kind < 0) {
                fail(NOT_HERE, place);
                return 0;
            }
            readToken();
            return kind;
        }

        private int kindNamed() {
            if (isNamed("plain")) {
                return PLAIN;
            }
            if (isNamed("eggs")) {
                return EGGS;
            }
            if (isNamed("ice")) {
                return ICE;
            }
            if (isNamed("soda")) {
                return SODA;
            }
            return isNamed("paraffin") ? PARAFFIN : -1;
        }

        private int takeNumber(int least, int most) {
            checkNumber(least, most);
            if (fault != 0) {
                return 0;
            }
            int taken = value;
            readToken();
            return taken;
        }

        private void checkNumber(int least, int most) {
            if (fault == 0 && token != NUMBER) {
                fail(NOT_HERE, place);
            }
            if (fault == 0 && !within(value, least, most)) {
                fail(OUT_OF_BOUNDS, place);
            }
        }

        /** Orders, each told once: the row begins with them; which they are (bits). */
        private int takeRow(int[] row) {
            int told = 0;
            for (int i = 0; i <= MOST_ORDERS && fault == 0 && token == NUMBER; i++) {
                checkNumber(0, MOST_ORDERS - 1);
                if (fault == 0 && (told >> value & 1) == 1) {
                    fail(TWICE, place);
                }
                if (fault == 0 && i < MOST_ORDERS) {
                    row[i] = value;
                    told |= 1 << value;
                    readToken();
                }
            }
            return told;
        }

        private void takeSemicolon() {
            if (fault == 0 && token != SEMICOLON) {
                fail(NOT_HERE, place);
            }
            if (fault == 0) {
                readToken();
            }
        }

        private void findMissing() {
            boolean missing = (toldPacked | toldRound) >> draft.orders != 0;
            for (int o = 0; o < draft.orders; o++) {
                missing = missing || draft.ofOrder(o, HOUSE) > draft.houses;
            }
            if (missing) {
                fail(MISSING, tape.length);
            }
        }

        private void addOthers(int[] row, int told) {
            int at = Integer.bitCount(told);
            for (int o = 0; o < draft.orders && at < MOST_ORDERS; o++) {
                if ((told >> o & 1) == 0) {
                    row[at] = o;
                    at++;
                }
            }
        }
    }
}

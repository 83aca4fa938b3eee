import java.lang.reflect.InvocationTargetException;
import java.lang.reflect.Method;
import java.util.ArrayList;
import java.util.Arrays;
import java.util.List;

/**
 * Every call with every mixture of edge numbers, in several states: none throws; what is refused, and what only asks,
 * changes nothing. That is seen by a twin to which those calls were not made: whatever both are asked behind it, they
 * answer alike.
 */
public final class Edges {
    private static final int[] NUMBERS = {Integer.MIN_VALUE, -2, -1, 0, 1, 2, 5, 6, 7, 10, 40, 61, 128, 200, Integer.MAX_VALUE};
    private static final List<String> CHANGES = List.of("feed", "end", "text", "set", "pack", "swap", "top", "first", "ask",
        "turn", "weigh", "see", "forget", "keep", "undo", "sheet", "lay", "read");
    private static final String[] TEXTS = {
        "",
        "road 9;",
        "up 9;order paraffin 1 9 9 99;",
        "up 9;down 9;up 9;down 9;up 9;down 9;order eggs 6 9 9 99;order ice 1 9 9 99;order soda 6 9 9 99;start 60;push 0;",
        "up 1;order ice 1 9 9 9;order eggs 1 9 9 9;order plain 1 1 0 0;order soda 1 9 9 9;order ice 1 9 9 9;round 4 3;"};
    private static final String[] FAULTY = {"$", "up 100;", "zz", "up", "up 0;", "push 1;push", "up 1;order ice 1 1 1 1;pack 0 0",
        "up 1;up 1;up 1;up 1;up 1;up 1;up", "order ice 1 1 1 1;", "up 1;round 0;", "pack 4 3 2 1 0;push 60;start 60;$"};
    // By the count of a call's numbers; where there are several, an odd count, so that two that undo one another show.
    private static final int[] IN_ONE = {1, 1, 1, 7, 19};
    private static final int FEW = 1, ALL = 2;

    private static int wrong = 0;

    public static void main(String[] args) throws IllegalAccessException {
        for (String text : TEXTS) {
            for (int filled = 0; filled <= ALL; filled++) {
                for (Method m : BasketRound.class.getMethods()) {
                    if (m.getDeclaringClass() == BasketRound.class) {
                        tryAll(text, filled, m);
                    }
                }
                refusedTexts(text, filled);
            }
        }
        if (wrong > 0) {
            System.exit(1);
        }
    }

    // ---------------------------------------------------------------- states

    private static void feedAll(BasketRound x, String text) {
        for (char c : text.toCharArray()) {
            x.feed(c);
        }
    }

    private static BasketRound made(String text, int filled) {
        BasketRound x = new BasketRound();
        feedAll(x, text);
        x.text();
        if (filled >= FEW) {
            x.keep(1);
            x.set(1, 7);
            x.turn(0, 3);
            x.sheet(0, 0, 6);
            x.lay(0, 1, 1);
            x.sheet(1, 2, 0);
            x.read(0, 0, 5, 1);
            x.see(0, x.time(0));
            feedAll(x, "up 1");
        }
        if (filled == ALL) {
            x.keep(0);
            x.first(2);
            x.top(1);
            x.sheet(2, 1, 40);
            x.sheet(3, 2, 2);
            x.lay(0, 2, 9);
            x.forget(0);
            for (int i = 0; i < 6; i++) {
                x.see(i % 2, x.time(i % 2));
            }
            feedAll(x, ";" + " ".repeat(155));
        }
        return x;
    }

    /** All that can be asked; in the end nothing of it is as it was. */
    private static List<Long> probe(BasketRound x) {
        List<Long> all = new ArrayList<>();
        all.add((long) x.torn());
        for (int what = 0; what <= 5; what++) {
            all.add((long) x.count(what));
        }
        for (int h = 1; h <= x.rule(0); h++) {
            all.add((long) x.house(h, 0));
            all.add((long) x.house(h, 1));
        }
        askShop(x, all);
        askSeen(x, all);
        for (int k = 0; k < 2; k++) {
            all.add((long) x.undo(k));
            askShop(x, all);
        }
        for (int k = 0; k < 4; k++) {
            askSheet(x, k, all);
        }
        all.add((long) (x.count(2) < 160 ? x.feed(';') : 0));
        all.add((long) x.text());
        all.add((long) x.fault());
        all.add((long) x.rule(0));
        return all;
    }

    private static void askShop(BasketRound x, List<Long> all) {
        for (int what = 1; what <= 5; what++) {
            all.add((long) x.rule(what));
        }
        for (int o = 0; o < x.rule(1); o++) {
            for (int what = 0; what <= 4; what++) {
                all.add((long) x.order(o, what));
            }
        }
    }

    private static void askSeen(BasketRound x, List<Long> all) {
        for (int left = x.count(0); left >= 0; left--) {
            all.add((long) x.forget(left));
            all.add((long) x.fits(0));
        }
    }

    private static void askSheet(BasketRound x, int k, List<Long> all) {
        for (int lane = 0; lane < 3; lane++) {
            all.add((long) x.read(k, lane, 0, 2));
            all.add((long) x.torn());
        }
        all.add((long) x.rule(5));
        for (int i : new int[] {1, 2, 5, 6, 39}) {
            all.add((long) x.lay(k, i, 0));
        }
    }

    // ---------------------------------------------------------------- what is tried

    private static void tryAll(String text, int filled, Method m) throws IllegalAccessException {
        int many = m.getParameterCount();
        int all = 1;
        for (int i = 0; i < many; i++) {
            all *= NUMBERS.length;
        }
        List<Long> asItWas = probe(made(text, filled));
        List<Object[]> together = new ArrayList<>();
        for (int i = 0; i < all; i++) {
            Object[] numbers = mixture(i, many);
            if (changesNothing(text, filled, m, numbers)) {
                together.add(numbers);
            }
            if (together.size() == IN_ONE[many] || i == all - 1) {
                BasketRound x = made(text, filled);
                int fault = x.fault();
                for (Object[] some : together) {
                    answer(x, text, m, some);
                }
                if (x.fault() != fault || !probe(x).equals(asItWas)) {
                    complain(text, m, together.isEmpty() ? numbers : together.get(0), "or one of " + together.size()
                        + " calls, refused or only asking, changed something");
                }
                together.clear();
            }
        }
    }

    private static Object[] mixture(int i, int many) {
        Object[] numbers = new Object[many];
        int left = i;
        for (int j = 0; j < many; j++) {
            numbers[j] = NUMBERS[left % NUMBERS.length];
            left /= NUMBERS.length;
        }
        return numbers;
    }

    private static boolean changesNothing(String text, int filled, Method m, Object[] numbers) throws IllegalAccessException {
        // What text() refuses does change THE TAPE: refusedTexts() looks at that.
        boolean asks = !CHANGES.contains(m.getName());
        long got = answer(made(text, filled), text, m, numbers);
        return asks || got < 0 && !m.getName().equals("text");
    }

    private static long answer(BasketRound x, String text, Method m, Object[] numbers) throws IllegalAccessException {
        try {
            return ((Number) m.invoke(x, numbers)).longValue();
        } catch (InvocationTargetException e) {
            complain(text, m, numbers, "threw " + e.getCause());
            return 0;
        }
    }

    private static void refusedTexts(String text, int filled) {
        for (String faulty : FAULTY) {
            BasketRound x = made(text, filled);
            x.end(0);
            BasketRound twin = made(text, filled);
            twin.end(0);
            feedAll(x, faulty);
            if (x.text() >= 0 || x.fault() == 0 || !probe(x).equals(probe(twin))) {
                wrong++;
                System.out.println("[" + text + "] [" + faulty + "] was taken, or changed something");
            }
        }
    }

    private static void complain(String text, Method m, Object[] numbers, String what) {
        wrong++;
        if (wrong < 20) {
            System.out.println("[" + text + "] " + m.getName() + Arrays.toString(numbers) + " " + what);
        }
    }
}

import java.lang.reflect.InvocationTargetException;
import java.lang.reflect.Method;
import java.util.ArrayList;
import java.util.List;

/** Every call with every mixture of edge numbers, in several states: none throws, and what is refused changes nothing. */
public final class Edges {
    private static final int[] NUMBERS = {Integer.MIN_VALUE, -2, -1, 0, 1, 2, 5, 6, 7, 10, 40, 61, 128, 200, Integer.MAX_VALUE};
    private static final String[] TEXTS = {
        "",
        "road 9;",
        "up 9;order paraffin 1 9 9 99;",
        "up 9;down 9;up 9;down 9;up 9;down 9;order eggs 6 9 9 99;order ice 1 9 9 99;order soda 6 9 9 99;start 60;push 0;",
        "up 1;order ice 1 9 9 9;order eggs 1 9 9 9;order plain 1 1 0 0;order soda 1 9 9 9;order paraffin 1 9 9 9;round 4 3 2;"};

    private static int wrong = 0;

    public static void main(String[] args) throws IllegalAccessException {
        for (String text : TEXTS) {
            for (Method m : BasketRound.class.getMethods()) {
                if (m.getDeclaringClass() == BasketRound.class) {
                    tryAll(text, m);
                }
            }
        }
        if (wrong > 0) {
            System.exit(1);
        }
    }

    private static BasketRound told(String text) {
        BasketRound x = new BasketRound();
        for (char c : text.toCharArray()) {
            x.feed(c);
        }
        x.text();
        x.sheet(0, 0, 6);
        x.sheet(1, 2, 0);
        x.see(0, 7);
        x.keep(1);
        x.feed('u');
        return x;
    }

    private static List<Long> state(BasketRound x) {
        List<Long> all = new ArrayList<>();
        for (int what = 0; what <= 6; what++) {
            all.add((long) x.rule(what));
            all.add((long) x.count(what));
            for (int i = 0; i <= 6; i++) {
                all.add((long) x.order(i, what));
                all.add((long) x.house(i, what));
            }
        }
        all.add((long) x.torn());
        all.add((long) x.fault());
        return all;
    }

    private static void tryAll(String text, Method m) throws IllegalAccessException {
        int many = m.getParameterCount();
        int all = 1;
        for (int i = 0; i < many; i++) {
            all *= NUMBERS.length;
        }
        BasketRound x = told(text);
        for (int i = 0; i < all; i++) {
            Object[] numbers = new Object[many];
            int left = i;
            for (int j = 0; j < many; j++) {
                numbers[j] = NUMBERS[left % NUMBERS.length];
                left /= NUMBERS.length;
            }
            List<Long> before = state(x);
            try {
                long answer = ((Number) m.invoke(x, numbers)).longValue();
                if (answer < 0 && !m.getName().equals("text") && !before.equals(state(x))) {
                    complain(text, m, numbers, "refused with " + answer + ", and yet changed something");
                }
                x = answer >= 0 ? told(text) : x;
            } catch (InvocationTargetException e) {
                complain(text, m, numbers, "threw " + e.getCause());
            }
        }
    }

    private static void complain(String text, Method m, Object[] numbers, String what) {
        wrong++;
        if (wrong < 20) {
            System.out.println("[" + text + "] " + m.getName() + java.util.Arrays.toString(numbers) + " " + what);
        }
    }
}

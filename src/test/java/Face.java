import java.io.IOException;
import java.lang.reflect.Field;
import java.lang.reflect.Method;
import java.lang.reflect.Modifier;
import java.nio.file.Files;
import java.nio.file.Path;
import java.util.ArrayList;
import java.util.List;
import java.util.TreeSet;

/** The public face is the document's and nothing more; the source keeps to rules that can be seen in its words. */
public final class Face {
    private static final String[] METHODS = {
        "int feed(int)", "int end(int)", "int text()", "int fault()", "int rule(int)", "int house(int,int)",
        "int order(int,int)", "int set(int,int)", "int pack(int,int)", "int swap(int,int)", "int top(int)",
        "int first(int)", "int ask(int,int,int)", "int turn(int,int)", "int weigh(int,int)", "int way(int,int,int)",
        "int time(int)", "int back()", "int spoilt()", "int late()", "int pennies()", "int spent(int)", "int best(int)",
        "int packing(int)", "int soonest(int)", "int two(int,int)", "int split(int)", "int strength()", "int latest()",
        "int leave(int)", "long mean(int,int)", "long luck(int,int,int)", "int see(int,int)", "int forget(int)",
        "int fits(int)", "int drift(int,int,int)", "int keep(int)", "int undo(int)", "int sheet(int,int,int)",
        "int lay(int,int,int)", "int read(int,int,int,int)", "int torn()", "int count(int)"};
    private static final String[] NOT_ALLOWED = {
        "\\bthrow\\b", "\\btry\\b", "\\bcatch\\b", "\\bsynchronized\\b", "\\bassert\\b", "->", "::", "\\bSystem\\.(?!arraycopy)",
        "\\bRandom\\b", "\\bThread\\b", "Exact\\b", "\\bpackage\\b", "\\bwhile \\(true\\)", "\\bfor \\(;;\\)", "\\bstatic \\{"};

    private static int wrong = 0;

    public static void main(String[] args) throws IOException {
        methods();
        fields();
        source();
        if (wrong > 0) {
            System.exit(1);
        }
    }

    private static void complain(String what) {
        wrong++;
        System.out.println(what);
    }

    private static void methods() {
        TreeSet<String> face = new TreeSet<>(List.of(METHODS));
        TreeSet<String> names = new TreeSet<>();
        for (String m : METHODS) {
            names.add(m.substring(m.indexOf(' ') + 1, m.indexOf('(')));
        }
        for (Method m : BasketRound.class.getDeclaredMethods()) {
            List<String> types = new ArrayList<>();
            for (Class<?> t : m.getParameterTypes()) {
                types.add(t.getName());
            }
            String told = m.getReturnType().getName() + " " + m.getName() + "(" + String.join(",", types) + ")";
            if (Modifier.isPublic(m.getModifiers())) {
                if (!face.remove(told)) {
                    complain("not in the document: " + told);
                }
            } else if (!Modifier.isPrivate(m.getModifiers()) && !m.isSynthetic()) {
                complain("not private: " + told);
            } else if (names.contains(m.getName())) {
                complain("bears a public name: " + told);
            }
        }
        for (String m : face) {
            complain("missing: " + m);
        }
        int kind = BasketRound.class.getModifiers();
        if (!Modifier.isPublic(kind) || !Modifier.isFinal(kind) || BasketRound.class.getConstructors().length != 1) {
            complain("not public and final with one constructor");
        }
    }

    private static void fields() {
        if (BasketRound.BAD != -1 || BasketRound.STATE != -2 || BasketRound.FULL != -3 || BasketRound.NONE != -4) {
            complain("a constant is not as told");
        }
        List<String> constants = List.of("BAD", "STATE", "FULL", "NONE");
        for (Field f : BasketRound.class.getDeclaredFields()) {
            boolean isPrivate = Modifier.isPrivate(f.getModifiers());
            if (!isPrivate && !constants.contains(f.getName())) {
                complain("not private: " + f.getName());
            }
            if (Modifier.isStatic(f.getModifiers()) && !Modifier.isFinal(f.getModifiers())) {
                complain("static and not final: " + f.getName());
            }
        }
    }

    private static void source() throws IOException {
        String source = Files.readString(Path.of("src/main/java/BasketRound.java"));
        String bare = source.replaceAll("(?s)/\\*.*?\\*/", "").replaceAll("//[^\n]*", "").replaceAll("\"[^\"\n]*\"", "\"\"");
        for (String word : NOT_ALLOWED) {
            if (java.util.regex.Pattern.compile(word).matcher(bare).find()) {
                complain("not allowed in the source: " + word);
            }
        }
    }
}

import java.lang.reflect.InvocationTargetException;
import java.lang.reflect.Method;
import java.lang.reflect.Modifier;
import java.util.ArrayList;
import java.util.Arrays;
import java.util.Comparator;
import java.util.List;
import java.util.Set;

/**
 * Calls with any arguments in any state: none throws (rule 7), the same calls always give the same answers
 * (rule 13), and no question changes what is told.
 */
public final class WildTest {
    private static final int RUNS = 2000;
    // Of the 512 calls that an object is used for, some are kept for the last text and the last questions.
    private static final int CALLS = 512 - 40 - 80;
    private static final int LAST_QUESTIONS = 80;
    private static final Set<String> TELLING = Set.of("feed", "end", "text", "image", "again");
    private static final int[] EDGES = {Integer.MIN_VALUE, Integer.MIN_VALUE + 1, -65536, -1000, -20, -10, -6, -5, -4, -3, 15, 18,
        23, 24, 25, 26, 27, 28, 39, 40, 41, 59, 60, 61, 99, 100, 199, 215, 216, 599, 600, 601, 999, 1000, 1 << 16,
        Integer.MAX_VALUE - 1, Integer.MAX_VALUE};
    private static final String[][] TEXTS = {
        {"", "minister 9 9 1 0;", "veto 0;", "quota 60; cloud 0; ground 0; heat 0;",
            "minister 5 3 0 1; minister 3 4 2 2; minister 2 6 1 3; want 0 spring 4 0 2; want 1 summer 2 1 2;"
            + "want 2 winter 1 0 5; veto 1; feud 0 1; feud 2 0; office rain 2; office sun 1; quota 6; cloud 7; heat 95;",
            "minister 1 27 9 9;minister 9 0 1 0;minister 4 12 2 3;minister 4 9 3 4;minister 2 6 4 5;minister 7 3 5 6;"
            + "want 0 spring 9 9 9; want 1 spring 1 2 3; want 2 spring 1 2 3; want 3 summer 3 3 3; veto 5; feud 4 5;"
            + "quota 14; spite 9; cloud 3; ground 99; heat 3;"},
        {"", "sum 27;", "no rain above 3; no sun below 2 in winter; sum 12; after rain 2 wind 1;", "no rain above 0;".repeat(8)},
        {"", "pass;".repeat(40), "move 0 1 0 1; season autumn; move 1 2 0 0; office wind 2; dismiss 2; recall 2; pass;",
            "dismiss 0; dismiss 1; dismiss 2; pass; recall 5;", "move 0 0 0 0; move 0 1 1 1; move 0 0 2 2;".repeat(6)},
        {"", "said 0 yes;", "said 0 yes; said 1 no;", "said 5 no; said 5 yes;", "said 1 no;".repeat(8)},
        {"", "was spring 1 2 3;", "was winter 9 0 9; was summer 9 9 9;", "was autumn 9 1 1;".repeat(8)},
        {"", "share 0 99;", "share 0 10; share 1 20; share 2 30; share 3 40; share 4 50; share 5 60;"},
    };

    private final Method[] face = face();
    private long chance;
    private int called;
    private WindCabinet asked;
    private WindCabinet twin;
    private WindCabinet told;

    private WildTest() {
    }

    public static void main(String[] args) {
        WildTest test = new WildTest();
        for (int run = 0; run < RUNS; run++) {
            test.run(run);
        }
        Check.finish();
    }

    private static Method[] face() {
        List<Method> face = new ArrayList<>();
        for (Method method : WindCabinet.class.getDeclaredMethods()) {
            if (Modifier.isPublic(method.getModifiers())) {
                face.add(method);
            }
        }
        face.sort(Comparator.comparing(Method::getName));
        return face.toArray(new Method[0]);
    }

    private int below(int n) {
        chance = chance * 6364136223846793005L + 1442695040888963407L;
        return (int) ((chance >>> 33) % n);
    }

    private void run(int run) {
        chance = run * 104729L;
        called = 0;
        asked = new WindCabinet();
        twin = new WindCabinet();
        told = new WindCabinet();
        for (int sort = 0; sort < TEXTS.length; sort++) {
            if (below(8) != 0) {
                text(sort);
            }
        }
        while (called < CALLS) {
            if (below(20) == 0) {
                text(below(TEXTS.length));
            }
            call(face[below(face.length)], below(2) == 0);
        }
        for (int i = 0; i < LAST_QUESTIONS; i++) {
            Method method = face[below(face.length)];
            if (!TELLING.contains(method.getName())) {
                Object[] arguments = arguments(method, false);
                due(method, arguments, answer(told, method, arguments), answer(asked, method, arguments));
            }
        }
    }

    private void text(int sort) {
        String text = TEXTS[sort][below(TEXTS[sort].length)];
        int at = below(3) - 1;
        called += text.length() / 20 + 4;
        Check.tell(asked, sort, at, text);
        Check.tell(twin, sort, at, text);
        Check.tell(told, sort, at, text);
    }

    private void call(Method method, boolean wild) {
        called++;
        Object[] arguments = arguments(method, wild);
        long answer = answer(asked, method, arguments);
        due(method, arguments, answer(twin, method, arguments), answer);
        if (TELLING.contains(method.getName())) {
            due(method, arguments, answer(told, method, arguments), answer);
        }
    }

    private static void due(Method method, Object[] arguments, long got, long want) {
        Check.due(method.getName() + Arrays.toString(arguments), got, want);
    }

    private Object[] arguments(Method method, boolean wild) {
        Class<?>[] types = method.getParameterTypes();
        Object[] arguments = new Object[types.length];
        // Mostly one wild number among good ones, else the first of them hides the others.
        int which = below(4) == 0 ? -1 : below(Math.max(1, types.length));
        for (int i = 0; i < types.length; i++) {
            if (types[i] == boolean.class) {
                arguments[i] = below(2) == 0;
            } else {
                boolean edge = wild && (which == -1 || which == i);
                arguments[i] = edge ? EDGES[below(EDGES.length)] : below(3) == 0 ? below(12) - 1 : below(2);
            }
        }
        return arguments;
    }

    private static long answer(WindCabinet cabinet, Method method, Object[] arguments) {
        try {
            Object answer = method.invoke(cabinet, arguments);
            return answer instanceof Boolean yes ? (yes ? 1 : 0) : (Integer) answer;
        } catch (IllegalAccessException | InvocationTargetException e) {
            Check.due(method.getName() + Arrays.toString(arguments) + " throws " + e.getCause() + ",", 1, 0);
            return Long.MIN_VALUE;
        }
    }
}

import java.lang.reflect.InvocationTargetException;
import java.lang.reflect.Method;
import java.lang.reflect.Modifier;
import java.util.ArrayList;
import java.util.Arrays;
import java.util.Comparator;
import java.util.List;
import java.util.Random;

/**
 * Promises 1 to 41: runs of calls drawn by a seed, each answer compared with the model's.
 * Arguments: how many runs (120), the first seed (1).
 */
public final class AgainstModelTest {
    private static final int CALLS = 120;
    private static final String[] LAWS = {
        "h", "h+1", "t=0?h-2;h+n-m/3", "(h|a)*3", "m>2?h/2;!t?12;h", "-h+12", "h%5*2+1", "0", "12", "n<2?0;h*2-(a+t)",
        "!!-!(h<6)*9", "m=3&n>1?11;a=t+1|h>7?h-1;5", "9999*9999*9999", "7-h/0", "h;0", "n%2?12;h-0-1",
        "0?1", "(((h)))+2", "h+1*2<t?3;6", "m*n-h", "h?t?1", "h<a<t", "(h", "h)", "12345", "!!!!!!!h", "h;;a", "", "h b",
        "((((((h))))))", "((((((-h))))))", "--!--!t*h", "h;t?", "1&h|t&0", "2>1>0", "n=0?12*(t=1)+(t=2)*6+(t=3)*3;h"
    };
    private static final String SIGNS = "hatmn019()!-+*/%<=>|&;?x ";

    private final Due due;
    private final Random random;
    private final ThreeSnowballs real = new ThreeSnowballs();
    private final Model model = new Model();
    private final List<String> calls = new ArrayList<>();

    private AgainstModelTest(Due due, long seed) {
        this.due = due;
        random = new Random(seed);
    }

    public static void main(String[] args) throws Exception {
        int runs = args.length > 0 ? Integer.parseInt(args[0]) : 120;
        long first = args.length > 1 ? Long.parseLong(args[1]) : 1;
        Due due = new Due("AgainstModelTest");
        for (long seed = first; seed < first + runs && due.isFaultless(); seed++) {
            new AgainstModelTest(due, seed).run(seed);
        }
        due.end();
    }

    private void run(long seed) throws Exception {
        Method[] methods = face();
        int lot = random.nextInt(4);
        for (int i = 0; i < lot; i++) {
            call("player", random.nextInt(13), random.nextInt(6));
        }
        call("bell", random.nextInt(6));
        for (int i = 0; i < CALLS && due.isFaultless(); i++) {
            one(methods[random.nextInt(methods.length)]);
        }
        if (!due.isFaultless()) {
            System.out.println("seed " + seed + ": " + String.join("; ", calls));
        }
    }

    private static Method[] face() {
        return Arrays.stream(ThreeSnowballs.class.getDeclaredMethods())
            .filter(m -> Modifier.isPublic(m.getModifiers()))
            .sorted(Comparator.comparing(Method::getName))
            .toArray(Method[]::new);
    }

    private void one(Method method) throws Exception {
        String name = method.getName();
        // Dear in the model: asked less often.
        if ((name.equals("settle") || name.equals("rest") || name.equals("even")) && random.nextInt(3) > 0) {
            return;
        }
        if (name.equals("feed") || name.equals("law")) {
            lawText();
        } else if (name.equals("put") || name.equals("players") || name.equals("judge") || name.equals("chance")) {
            rows(method);
        } else {
            call(name, arguments(method));
        }
    }

    private void lawText() throws Exception {
        String text = LAWS[random.nextInt(LAWS.length)];
        if (random.nextInt(3) == 0) {
            StringBuilder drawn = new StringBuilder();
            for (int i = random.nextInt(9); i >= 0; i--) {
                drawn.append(SIGNS.charAt(random.nextInt(SIGNS.length())));
            }
            text = random.nextBoolean() ? drawn.toString() : text + drawn;
        }
        for (char c : text.toCharArray()) {
            call("feed", (int) c);
        }
        call("law");
    }

    private void rows(Method method) throws Exception {
        int shelf = random.nextInt(3);
        if (random.nextBoolean()) {
            call("row", shelf, 0, random.nextInt(9));
        }
        boolean isTold = random.nextBoolean();
        for (int i = 0; i < 8 && random.nextInt(9) > 0; i++) {
            int whom = random.nextInt(6);
            call("put", shelf, i, isTold ? (long) (i % 2 == 1 ? random.nextInt(20) / 9 : whom > 3 ? 9 : whom)
                : (long) random.nextInt(i % 2 == 0 ? 14 : 7));
        }
        if (method.getName().equals("players")) {
            call("players", shelf, random.nextInt(5) - 1, 1 + random.nextInt(4));
            return;
        }
        for (int what = 0; what < 2; what++) {
            call("judge", shelf, what);
            call("chance", shelf, what);
        }
        call(method.getName(), arguments(method));
    }

    private Object[] arguments(Method method) {
        Class<?>[] types = method.getParameterTypes();
        Object[] arguments = new Object[types.length];
        for (int i = 0; i < types.length; i++) {
            arguments[i] = types[i] == long.class ? (Object) oneLong() : (Object) oneInt(method.getName(), i);
        }
        return arguments;
    }

    private long oneLong() {
        return random.nextInt(3) == 0 ? random.nextLong() : random.nextInt(400) - 200;
    }

    private int oneInt(String name, int i) {
        int[] odd = {-1, -2, Integer.MIN_VALUE, Integer.MAX_VALUE, 61, 13, 12, 9, 6, 5, 4};
        if (random.nextInt(12) == 0) {
            return odd[random.nextInt(odd.length)];
        }
        switch (name) {
            case "order": return order();
            case "mend": return random.nextInt(i == 1 ? 3 : i == 0 ? 4 : 7);
            case "player": return random.nextInt(i == 0 ? 13 : 6);
            case "league": return random.nextInt(4) * 10 + random.nextInt(4);
            case "worth": case "chance": return random.nextInt(i == 1 && name.equals("worth") ? 3 : i == 0 ? 4 : 2);
            case "just": return i == 0 ? random.nextInt(17) - 1 : random.nextInt(2);
            case "aims": return i == 1 ? random.nextInt(16) : random.nextInt(4);
            case "settle": return random.nextInt(5) - 1;
            case "seen": return random.nextInt(14);
            case "drawn": return i == 0 ? random.nextInt() : i == 1 ? random.nextInt(31) : random.nextInt(4);
            case "step": return random.nextInt(12);
            case "body": return random.nextInt(8);
            case "act": return i == 2 ? random.nextInt() : random.nextInt(i == 1 ? 4 : 9);
            case "trace": return random.nextInt(26);
            case "row": return random.nextInt(i == 2 ? 12 : 5);
            case "put": case "element": case "shift": return random.nextInt(6);
            case "bell": return random.nextInt(7);
            case "prize": return random.nextInt(i == 0 ? 5 : 10);
            case "taken": return random.nextInt(i == 0 ? 6 : 8);
            default: return random.nextInt(6);
        }
    }

    private int order() {
        List<Integer> digits = new ArrayList<>(List.of(1, 2, 3, 4).subList(0, model.count(0)));
        java.util.Collections.shuffle(digits, random);
        int order = 0;
        for (int digit : digits) {
            order = order * 10 + digit;
        }
        return random.nextInt(9) == 0 ? order + random.nextInt(1200) - 100 : order;
    }

    private void call(String name, Object... arguments) throws Exception {
        Class<?>[] types = Arrays.stream(arguments)
            .map(a -> a instanceof Long ? long.class : int.class).toArray(Class<?>[]::new);
        String told = name + Arrays.toString(arguments);
        calls.add(told);
        if (due.isFaultless()) {
            due.due(told, ask(real, name, types, arguments), ask(model, name, types, arguments));
        }
    }

    private static long ask(Object whom, String name, Class<?>[] types, Object[] arguments) throws Exception {
        try {
            Method method = whom.getClass().getDeclaredMethod(name, types);
            return ((Number) method.invoke(whom, arguments)).longValue();
        } catch (InvocationTargetException thrown) {
            throw new IllegalStateException(name + Arrays.toString(arguments), thrown.getCause());
        }
    }
}

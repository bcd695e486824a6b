import java.lang.reflect.InvocationTargetException;
import java.lang.reflect.Method;
import java.util.ArrayList;
import java.util.Arrays;
import java.util.Comparator;
import java.util.List;
import java.util.Random;

/** Long runs of calls, drawn from fixed seeds, held against the model. */
public final class ModelTest {
    private static final int RUNS = 1500;
    private static final int CALLS = 512;

    private static final Due due = new Due();

    private final Random random;
    private final String run;
    private final BunchNotes x = new BunchNotes();
    private final Model model = new Model();
    private int nodes = 2;
    private int calls = 0;
    private boolean agreed = true;

    private ModelTest(int seed) {
        random = new Random(seed);
        run = "run " + seed;
    }

    public static void main(String[] args) throws IllegalAccessException, InvocationTargetException {
        List<Method> methods = new ArrayList<>(Arrays.asList(BunchNotes.class.getDeclaredMethods()));
        methods.removeIf(m -> !java.lang.reflect.Modifier.isPublic(m.getModifiers()));
        methods.sort(Comparator.comparing(Method::getName));
        int runs = args.length > 0 ? Integer.parseInt(args[0]) : RUNS;
        for (int seed = 0; seed < runs; seed++) {
            new ModelTest(seed).go(methods);
        }
        due.end();
    }

    private void go(List<Method> methods) throws IllegalAccessException, InvocationTargetException {
        boolean busy = random.nextBoolean();
        if (random.nextInt(4) > 0) {
            tell("net " + (2 + random.nextInt(11)));
        }
        while (calls < CALLS - 1 && agreed) {
            if (calls < CALLS - 210 && random.nextInt(60) == 0) {
                tell(drawnText());
            } else if (random.nextInt(3) == 0) {
                grow(busy);
            } else {
                Method method = methods.get(random.nextInt(methods.size()));
                int[] given = new int[method.getParameterCount()];
                for (int i = 0; i < given.length; i++) {
                    given[i] = drawnArgument();
                }
                ask(method, given);
            }
        }
    }

    /** Acts that make nets and notes worth asking about. */
    private void grow(boolean busy) {
        int u = random.nextInt(nodes);
        int v = random.nextInt(nodes);
        int kind = random.nextInt(busy ? 12 : 24);
        if (kind < 6) {
            int l = random.nextBoolean() ? 1 + random.nextInt(6) : 1 + random.nextInt(99);
            hold("join", x.join(u, v, l), u, v, l);
        } else if (kind < 8) {
            int i = random.nextInt(3);
            hold("lift", x.lift(u, i), u, i);
        } else if (kind == 8) {
            hold("mend", x.mend());
        } else if (kind == 9) {
            int seed = random.nextInt();
            hold("draw", x.draw(seed), seed);
        } else {
            int k = random.nextInt(5);
            hold("route", x.route(u, v, k), u, v, k);
            hold("told", x.told(u, v, k % 3), u, v, k % 3);
        }
    }

    private void tell(String text) {
        hold("erase", x.erase());
        for (int i = 0; i < text.length(); i++) {
            hold("type", x.type(text.charAt(i)), text.charAt(i));
        }
        hold("fault", x.fault());
        if (random.nextInt(3) > 0) {
            hold("net", x.net());
        }
        nodes = model.call("count", 0);
    }

    private String drawnText() {
        StringBuilder text = new StringBuilder();
        int clauses = random.nextInt(8) == 0 ? 20 + random.nextInt(8) : 1 + random.nextInt(6);
        int known = nodes;
        for (int i = 0; i < clauses && text.length() < 190; i++) {
            text.append(i == 0 ? "" : gap() + ";").append(gap());
            int kind = random.nextInt(6);
            if (kind == 0) {
                known = 2 + random.nextInt(11);
                text.append("net").append(gap()).append(known);
            } else if (kind < 4) {
                int u = random.nextInt(known);
                text.append("link").append(gap()).append(u).append(" ").append(gap());
                text.append((u + 1 + random.nextInt(known - 1)) % known).append(" ").append(1 + random.nextInt(99));
            } else {
                text.append("level ").append(random.nextInt(known)).append(" ").append(random.nextInt(3));
            }
        }
        text.append(gap());
        text.setLength(Math.min(text.length(), 200));
        return random.nextInt(3) == 0 ? spoilt(text) : text.toString();
    }

    private String gap() {
        return random.nextInt(4) == 0 ? " " : "";
    }

    private String spoilt(StringBuilder text) {
        String signs = "  ;;nletvik0123456789Z-\t" + (char) 160 + (char) 233;
        int place = random.nextInt(text.length());
        char sign = signs.charAt(random.nextInt(signs.length()));
        int kind = random.nextInt(4);
        if (kind == 0) {
            text.setCharAt(place, sign);
        } else if (kind == 1) {
            text.deleteCharAt(place);
        } else if (kind == 2) {
            text.setLength(place);
        } else {
            text.insert(place, sign);
        }
        return text.toString();
    }

    private int drawnArgument() {
        int kind = random.nextInt(40);
        if (kind == 0) {
            return random.nextInt();
        }
        if (kind == 1) {
            return random.nextBoolean() ? Integer.MAX_VALUE : Integer.MIN_VALUE;
        }
        if (kind < 6) {
            return random.nextInt(20) - 4;
        }
        return kind < 20 ? random.nextInt(nodes) : random.nextInt(3);
    }

    private void ask(Method method, int[] given) throws IllegalAccessException, InvocationTargetException {
        Object[] boxed = new Object[given.length];
        for (int i = 0; i < given.length; i++) {
            boxed[i] = given[i];
        }
        hold(method.getName(), (Integer) method.invoke(x, boxed), given);
        nodes = model.call("count", 0);
    }

    private void hold(String name, int got, int... given) {
        int want = model.call(name, given);
        calls++;
        agreed = agreed && got == want;
        due.is(run + ", call " + calls + ": " + name + Arrays.toString(given), got, want);
    }
}

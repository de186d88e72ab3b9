import java.lang.reflect.InvocationTargetException;
import java.lang.reflect.Method;
import java.util.ArrayList;
import java.util.Comparator;
import java.util.List;
import java.util.NoSuchElementException;
import java.util.Random;

/** Runs of calls by chance (of told seeds) on HandKnot and on SlowKnot: each answer must be the same. */
public final class ModelTest {
    private static final int RUNS = Integer.getInteger("runs", 1500);
    private static final int CALLS = 90;

    private final Random random;
    private final Texts texts;
    private final HandKnot fast = new HandKnot();
    private final SlowKnot slow = new SlowKnot();
    private final List<String> told = new ArrayList<>();
    private boolean wrong;

    private ModelTest(long seed) {
        random = new Random(seed);
        texts = new Texts(random);
    }

    private static List<Method> face() {
        List<Method> all = new ArrayList<>(List.of(HandKnot.class.getDeclaredMethods()));
        all.removeIf(m -> !java.lang.reflect.Modifier.isPublic(m.getModifiers()));
        all.sort(Comparator.comparing(Method::getName));
        return all;
    }

    private static Object answer(Object on, Method m, Object[] args) {
        try {
            return on.getClass().getMethod(m.getName(), m.getParameterTypes()).invoke(on, args);
        } catch (InvocationTargetException e) {
            if (e.getCause() instanceof NoSuchElementException) return "throws.NoSuchElementException";
            e.getCause().printStackTrace();
            return "throws " + on.getClass() + " " + e.getCause();
        } catch (ReflectiveOperationException e) {
            throw new IllegalStateException(e);
        }
    }

    private Object both(Method m, Object... args) {
        Object is = answer(fast, m, args);
        Object due = answer(slow, m, args);
        StringBuilder call = new StringBuilder(m.getName()).append('(');
        for (int i = 0; i < args.length; i++) call.append(i == 0 ? "" : ", ").append(args[i]);
        told.add(call + ") -> " + is);
        if (!is.equals(due)) {
            wrong = true;
            told.add("  due is " + due);
        }
        return is;
    }

    private static Method named(String name) {
        for (Method m : face()) if (m.getName().equals(name)) return m;
        throw new IllegalStateException(name);
    }

    private void load() {
        String text = texts.good();
        int spoil = random.nextInt(3);
        for (int i = 0; i < spoil - 1; i++) text = texts.spoiled(text);
        if (text.length() > 880) text = text.substring(0, 880);
        told.add("text: " + text);
        int[] all = Texts.fed(text, " ;ax".charAt(random.nextInt(4)));
        Method feed = named("feed");
        for (int i = 0; i < all.length; i += 5) both(feed, all[i], all[i + 1], all[i + 2], all[i + 3], all[i + 4]);
        both(named("tangle"), random.nextInt(20) == 0 ? random.nextInt(1000) - 20 : text.length());
        for (String name : new String[] {"trouble", "fault", "where"}) both(named(name));
    }

    private int number(Method m, int i) {
        String name = m.getName();
        int which = random.nextInt(12);
        if (which == 0) return random.nextInt(40) - 10;
        if (name.equals("seed") || name.equals("tries") && i == 0) {
            return new int[] {-1, 0, 1, 65535, 65536, 65537, random.nextInt(65537)}[random.nextInt(7)];
        }
        if (name.equals("may") || name.equals("goer") || name.equals("move")) return moveNumber();
        if (name.equals("stands") || name.equals("place") && i == 0) return random.nextInt(16) - 1;
        if (name.equals("place")) return random.nextInt(4) - 1;
        if (name.equals("colours")) return 2 + random.nextInt(7);
        if (name.equals("size")) return random.nextInt(14) - 1;
        if (name.equals("tries")) return random.nextInt(23) - 1;
        if (name.equals("ways") || name.equals("odds") || name.equals("mean")) return random.nextInt(17) - 1;
        if (name.equals("feed")) return random.nextInt();
        if (name.equals("back")) return random.nextInt(5) - 1;
        if (name.equals("led")) return random.nextInt(8) - 1;
        return random.nextInt(11) - 1;
    }

    private int moveNumber() {
        int many = fast.moves();
        slow.moves();
        if (many > 0 && random.nextBoolean()) {
            int i = random.nextInt(many);
            slow.moveAt(i);
            return fast.moveAt(i);
        }
        int x = random.nextInt(8);
        int y = random.nextInt(8);
        int z = random.nextInt(8);
        return new int[] {x, 100 + 10 * x + y, 1000 + 100 * x + 10 * y + z, random.nextInt(2200)}[random.nextInt(4)];
    }

    private boolean runs() {
        List<Method> all = face();
        all.removeIf(m -> m.getName().equals("tangle"));
        Method trouble = named("trouble");
        if (random.nextInt(10) > 0) load();
        for (int i = 0; i < CALLS && !wrong; i++) {
            int which = random.nextInt(100);
            if (which == 0) load();
            Method m = all.get(random.nextInt(all.size()));
            if (m.getName().equals("parts") && random.nextInt(3) > 0) continue;
            Object[] args = new Object[m.getParameterCount()];
            for (int k = 0; k < args.length; k++) {
                args[k] = m.getParameterTypes()[k] == boolean.class ? (Object) random.nextBoolean() : (Object) number(m, k);
            }
            both(m, args);
            if (random.nextBoolean()) both(trouble);
        }
        sweep();
        return !wrong;
    }

    /** At the end of a run all that stands is asked for. */
    private void sweep() {
        for (int i = -1; i <= 14 && !wrong; i++) {
            for (String name : new String[] {"stands", "sign", "led", "size", "ring", "along", "sees", "own", "twist", "people"}) {
                both(named(name), i);
            }
            for (int k = -1; k < 4; k++) both(named("hang"), i, k);
        }
        both(named("moves"));
        both(named("arcs"));
    }

    public static void main(String[] args) {
        int failed = 0;
        long first = Long.getLong("first", 0L);
        for (long seed = first; seed < first + RUNS && failed < 3; seed++) {
            ModelTest run = new ModelTest(seed);
            if (!run.runs()) {
                failed++;
                System.out.println("run by seed " + seed);
                for (String line : run.told) System.out.println("  " + line);
            }
        }
        System.out.println(failed == 0 ? RUNS + " runs answer as the slow model does" : "runs differ");
        if (failed > 0) System.exit(1);
    }
}

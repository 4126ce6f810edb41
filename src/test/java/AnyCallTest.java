import java.lang.reflect.InvocationTargetException;
import java.lang.reflect.Method;
import java.util.Arrays;
import java.util.Comparator;
import java.util.NoSuchElementException;
import java.util.Random;

/**
 * Runs of 512 calls with any numbers on terraces and on bytes of all sorts: only led throws, a
 * refusal goes with a trouble, and a refused call or a question changes nothing.
 */
public final class AnyCallTest {
    private static final TestHelp T = new TestHelp();
    private static final int[] ODD = {Integer.MIN_VALUE, Integer.MAX_VALUE, -2, -1, 0, 1, 2, 3, 4, 5,
        6, 7, 8, 9, 15, 16, 31, 32, 60, 61, 100, 125, 255, 256, 899, 900, 901, 65536, 65537};

    public static void main(String[] args) throws Exception {
        Method[] calls = TaleShares.class.getDeclaredMethods();
        calls = Arrays.stream(calls)
                .filter(m -> java.lang.reflect.Modifier.isPublic(m.getModifiers()))
                .sorted(Comparator.comparing(Method::getName)).toArray(Method[]::new);
        Random random = new Random(20261118);
        for (int run = 0; run < 300; run++) {
            TaleShares x = new TaleShares();
            if (run % 3 != 0) {
                TestHelp.tell(x, RandomTerraceHelp.text(new RandomTerraceHelp(random), random));
            }
            for (int k = 0; k < 512; k++) {
                call(x, calls[random.nextInt(calls.length)], random);
            }
        }
        T.end();
    }

    private static void call(TaleShares x, Method m, Random random) throws Exception {
        Object[] args = new Object[m.getParameterCount()];
        for (int i = 0; i < args.length; i++) {
            args[i] = m.getParameterTypes()[i] == boolean.class ? (Object) random.nextBoolean()
                    : (Object) number(random);
        }
        String name = m.getName() + Arrays.toString(args);
        String ahead = state(x);
        Object got = null;
        try {
            got = m.invoke(x, args);
        } catch (InvocationTargetException e) {
            boolean due = m.getName().equals("led") && e.getCause() instanceof NoSuchElementException;
            T.check(49, name + " throws " + e.getCause(), due ? 1 : 0, 1);
        }
        boolean refusable = !Arrays.asList("feed", "fault", "where", "led", "size", "trouble")
                .contains(m.getName());
        if (refusable) {
            long value = got instanceof Boolean ? ((Boolean) got ? 0 : -1) : ((Number) got).longValue();
            boolean refused = m.getName().equals("father") ? value == -100 : value == -1;
            // A father may have -1 and more below it; -100 alone refuses.
            T.check(51, name + " refused", x.trouble() != 0 ? 1 : 0, refused ? 1 : 0);
        }
        boolean act = Arrays.asList("tell", "learn", "forget", "evening", "seed", "undo", "image",
                "back", "feed", "terrace").contains(m.getName());
        if (!act || refusable && x.trouble() != 0 && !m.getName().equals("terrace")) {
            T.check(51, name + " changes nothing", ahead.equals(state(x)) ? 1 : 0, 1);
        }
    }

    private static int number(Random random) {
        int sort = random.nextInt(10);
        return sort < 6 ? random.nextInt(6) : sort < 9 ? ODD[random.nextInt(ODD.length)]
                : random.nextInt();
    }

    /** What is told without touching the trouble: sizes, and houses that have no SENSE. */
    private static String state(TaleShares x) {
        StringBuilder text = new StringBuilder();
        for (int what = 0; what < 12; what++) {
            text.append(x.size(what)).append(' ');
        }
        for (int i = 0; i < 5; i++) {
            try {
                text.append(x.led(i)).append(' ');
            } catch (NoSuchElementException e) {
                text.append("- ");
            }
        }
        return text.append(x.fault()).toString();
    }
}

import java.lang.reflect.InvocationTargetException;
import java.lang.reflect.Method;
import java.util.ArrayList;
import java.util.Comparator;
import java.util.List;

/** All promises: long runs of mixed calls, wrong ones among them, held against the plain model. */
public final class RunsTest {
    private static final Checks CHECKS = new Checks("promises 1 to 16, long runs");
    private static final int CALLS = 512;
    private static final int[] WRONG = {-1, 16, 17, Integer.MIN_VALUE, Integer.MAX_VALUE};

    private static long seed = 20261115L;

    public static void main(String[] args) throws ReflectiveOperationException {
        List<Method> calls = calls();
        CHECKS.due("how many calls the class has", calls.size(), 15);
        for (int run = 0; run < 60; run++) {
            int places = run % 3 == 0 ? 16 : 5 + below(12);
            int changes = run % 4 == 0 ? 70 : 25;
            int adds = 40 + below(60);
            runOf(run, calls, places, changes, adds);
        }
        CHECKS.finish();
    }

    private static List<Method> calls() {
        List<Method> calls = new ArrayList<>(List.of(ArcAtlas.class.getDeclaredMethods()));
        calls.removeIf(m -> !java.lang.reflect.Modifier.isPublic(m.getModifiers()));
        calls.sort(Comparator.comparing(Method::getName));
        return calls;
    }

    /** Of 100 calls some changes put or take arrows, and of 100 of those some adds put them. */
    private static void runOf(int run, List<Method> calls, int places, int changes, int adds)
            throws ReflectiveOperationException {
        ArcAtlas x = new ArcAtlas();
        PlainModel model = new PlainModel();
        for (int n = 0; n < CALLS; n++) {
            Method call = pick(calls, changes, adds);
            Object[] with = arguments(call, places);
            Method same = PlainModel.class.getMethod(call.getName(), call.getParameterTypes());
            String told = "run " + run + ", call " + n + ", " + call.getName() + List.of(with);
            CHECKS.due(told, answer(call, x, with), answer(same, model, with));
        }
    }

    private static Method pick(List<Method> calls, int changes, int adds) {
        String name = below(100) >= changes ? "" : below(100) < adds ? "add" : "remove";
        for (Method call : calls) {
            if (call.getName().equals(name)) {
                return call;
            }
        }
        Method any = calls.get(below(calls.size()));
        // Runs that are cleared often never grow.
        return any.getName().equals("clear") && below(8) > 0 ? pick(calls, 100, 100) : any;
    }

    private static Object[] arguments(Method call, int places) {
        Object[] with = new Object[call.getParameterCount()];
        for (int i = 0; i < with.length; i++) {
            boolean small = call.getName().equals("figure") || i == 2;
            with[i] = below(40) == 0 ? WRONG[below(WRONG.length)] : below(small ? 6 : places);
        }
        return with;
    }

    private static Object answer(Method call, Object on, Object[] with) throws IllegalAccessException {
        try {
            return call.invoke(on, with);
        } catch (InvocationTargetException e) {
            return "throws." + e.getCause().getClass().getSimpleName();
        }
    }

    private static int below(int bound) {
        seed = seed * 6364136223846793005L + 1442695040888963407L;
        return (int) ((seed >>> 33) % bound);
    }
}

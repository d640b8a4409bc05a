import java.lang.reflect.Method;
import java.util.ArrayList;
import java.util.Comparator;
import java.util.List;
import java.util.Random;

/** Runs of calls, the same each time, on the class and on the plain model side by side. */
public final class RandomRunsTest {
    private static final int RUNS = 288;
    // As many as an object is promised to serve.
    private static final int CALLS = 512;
    private static final int[] ODD = {
        Integer.MIN_VALUE, Integer.MAX_VALUE, -1001, 1001, -51, 51, -1, 999, 1000, 100000, 100001
    };

    private static int wrong = 0;

    public static void main(String[] args) throws Exception {
        List<Method> calls = new ArrayList<>();
        for (Method m : WhoIsWho.class.getDeclaredMethods()) {
            if (java.lang.reflect.Modifier.isPublic(m.getModifiers())) {
                calls.add(m);
            }
        }
        calls.sort(Comparator.comparing(Method::getName));
        long made = 0;
        for (int run = 0; run < RUNS && wrong < 5; run++) {
            made += oneRun(run, calls);
        }
        System.out.println(made + " calls in " + RUNS + " runs, " + wrong + " wrong");
        if (wrong != 0) {
            System.exit(1);
        }
    }

    private static int oneRun(int run, List<Method> calls) throws Exception {
        Random chance = new Random(run);
        WhoIsWho x = new WhoIsWho();
        PlainModel model = new PlainModel();
        List<String> told = new ArrayList<>();
        // Narrow fields make many dots fit many tracks; wide ones make few fit any.
        int field = new int[] {5, 40, 150, 1000}[run % 4];
        int moments = new int[] {4, 12, 60, 1000}[run / 4 % 4];
        // Few different costs make many worlds cost alike.
        boolean alike = run / 16 % 3 == 2;
        for (int i = 0; i < CALLS; i++) {
            Method call = pick(chance, calls);
            Object[] with = arguments(chance, call, field, moments);
            if (call.getName().equals("rule") && chance.nextInt(30) != 0) {
                with[1] = alike ? ruledAlike(chance, (int) with[0]) : ruled(chance, (int) with[0]);
            }
            Method twin = PlainModel.class.getDeclaredMethod(call.getName(), call.getParameterTypes());
            int got = (int) call.invoke(x, with);
            int want = (int) twin.invoke(model, with);
            told.add(call.getName() + List.of(with) + " = " + got);
            if (got != want) {
                wrong++;
                System.out.println("run " + run + ": " + told + ", due is " + want);
                return i + 1;
            }
        }
        return CALLS;
    }

    private static Method pick(Random chance, List<Method> calls) {
        int dice = chance.nextInt(100);
        String wanted = dice < 24 ? "dot" : dice < 36 ? "scan" : dice < 38 ? "watcher" : dice < 40 ? "track" : "";
        for (Method m : calls) {
            if (m.getName().equals(wanted)) {
                return m;
            }
        }
        return calls.get(chance.nextInt(calls.size()));
    }

    private static Object[] arguments(Random chance, Method call, int field, int moments) {
        int n = call.getParameterCount();
        Object[] with = new Object[n];
        for (int i = 0; i < n; i++) {
            with[i] = chance.nextInt(60) == 0
                    ? ODD[chance.nextInt(ODD.length)]
                    : ordinary(chance, call.getName(), i, field, moments);
        }
        return with;
    }

    private static int ordinary(Random chance, String name, int i, int field, int moments) {
        switch (name) {
            case "shift":
                return i == 0 ? chance.nextInt(3) : chance.nextInt(103) - 51;
            case "dot":
                return i < 2 ? chance.nextInt(2 * field + 1) - field : chance.nextInt(2) * chance.nextInt(4);
            case "scan":
                return i == 0 ? chance.nextInt(3) : chance.nextInt(moments);
            case "drop":
            case "ordered":
                return chance.nextInt(13);
            case "kind":
                return i == 0 ? chance.nextInt(4) : chance.nextInt(3);
            case "rule":
                return chance.nextInt(7) - (chance.nextInt(20) == 0 ? 1 : 0);
            case "track":
                return chance.nextInt(i == 0 ? 4 : i == 1 ? 6 : 11);
            case "account":
                return chance.nextInt(i == 1 ? 12 : 4);
            case "foretell":
                return chance.nextInt(i == 0 ? 4 : i == 1 ? 5 : i == 2 ? moments + 20 : 2);
            case "sure":
                return chance.nextInt(i == 0 ? 12 : 4);
            case "path":
                return chance.nextInt(6);
            case "apart":
                return chance.nextInt(i < 2 ? 5 : moments);
            case "near":
                return chance.nextInt(i < 2 ? 5 : field + 20);
            default:
                return chance.nextInt(5) - (chance.nextInt(10) == 0 ? 1 : 0);
        }
    }

    private static int ruled(Random chance, int what) {
        switch (what) {
            case 0:
                return chance.nextInt(chance.nextBoolean() ? 80 : 502);
            case 4:
                return chance.nextInt(4);
            case 5:
                return chance.nextInt(6);
            default:
                return chance.nextInt(5) == 0 ? 0 : chance.nextInt(3) * 500 + chance.nextInt(6000);
        }
    }

    private static int ruledAlike(Random chance, int what) {
        boolean isCost = what >= 1 && what <= 3;
        return isCost ? chance.nextInt(2) * chance.nextInt(3) * 1000 : ruled(chance, what);
    }
}

import java.lang.reflect.InvocationTargetException;
import java.lang.reflect.Method;
import java.util.Random;

/**
 * Long runs of calls on the class and on a second, plain model of the document; each answer or
 * exception is compared. The runs come from fixed seeds, so that each run of the test is the same.
 */
public final class ModelTest {
    private static final int RUNS = 1500;
    // The last of the 512 calls asks for the invariants.
    private static final int CALLS = 511;
    private static final String WAYS = "pema";

    private final Random random;
    private final TollClock clock = new TollClock();
    private final PlainModel model = new PlainModel();
    private final Method[] methods = sorted(TollClock.class.getDeclaredMethods());
    private final StringBuilder calls = new StringBuilder();
    private boolean wrong = false;

    private ModelTest(int seed) {
        random = new Random(seed);
    }

    public static void main(String[] args) {
        int failed = 0;
        for (int seed = 0; seed < RUNS && failed < 3; seed++) {
            ModelTest test = new ModelTest(seed);
            test.play();
            if (test.wrong) {
                failed++;
                System.out.println("seed " + seed + ":" + test.calls);
            }
        }
        System.out.println(RUNS + " runs, " + failed + " wrong");
        if (failed != 0) {
            System.exit(1);
        }
    }

    private static Method[] sorted(Method[] all) {
        java.util.List<Method> faces = new java.util.ArrayList<>();
        for (Method method : all) {
            if (java.lang.reflect.Modifier.isPublic(method.getModifiers())) {
                faces.add(method);
            }
        }
        faces.sort((one, other) -> one.getName().compareTo(other.getName()));
        return faces.toArray(new Method[0]);
    }

    private void play() {
        int made = 0;
        while (made < CALLS && !wrong) {
            String text = random.nextInt(7) == 0 ? newText() : "";
            for (int index = 0; index < text.length() && made < CALLS - 1 && !wrong; index++) {
                call(method("type"), new Object[] {text.charAt(index)});
                made++;
            }
            Method next = text.isEmpty() ? anyMethod() : methodForText();
            call(next, arguments(next));
            made++;
        }
        if (!wrong && !clock.isConsistent()) {
            wrong = true;
            calls.append(" isConsistent() answered false");
        }
    }

    private Method method(String name) {
        for (Method method : methods) {
            if (method.getName().equals(name)) {
                return method;
            }
        }
        throw new IllegalStateException(name);
    }

    private Method anyMethod() {
        String[] often = {"serve", "advance", "stayParty", "stayAll", "lift", "extendByOrder", "extendByConsent",
            "addHoliday", "addOccurrence", "linkOccurrences", "fileClaim", "amendClaim", "due", "daysLeft", "openAt"};
        return random.nextInt(3) == 0 ? method(often[random.nextInt(often.length)])
                : methods[random.nextInt(methods.length)];
    }

    private Method methodForText() {
        String[] names = {"run", "run", "run", "addParty", "addParty", "findParty"};
        return method(names[random.nextInt(names.length)]);
    }

    private void call(Method method, Object[] arguments) {
        String want = answer(() -> model.answer(method.getName(), arguments));
        String got = answer(() -> {
            try {
                return method.invoke(clock, arguments);
            } catch (InvocationTargetException thrown) {
                throw (RuntimeException) thrown.getCause();
            } catch (IllegalAccessException thrown) {
                throw new IllegalStateException(thrown);
            }
        });
        calls.append(' ').append(method.getName()).append(java.util.Arrays.toString(arguments));
        if (!want.equals(got)) {
            wrong = true;
            calls.append(" answered ").append(got).append(", due is ").append(want);
        }
    }

    private static String answer(Check.Call call) {
        try {
            return String.valueOf(call.answer());
        } catch (RuntimeException thrown) {
            return thrown.getClass().getName();
        }
    }

    private Object[] arguments(Method method) {
        String name = method.getName();
        Class<?>[] kinds = method.getParameterTypes();
        Object[] values = new Object[kinds.length];
        for (int index = 0; index < kinds.length; index++) {
            if (kinds[index] == boolean.class) {
                values[index] = random.nextBoolean();
            } else if (kinds[index] == char.class) {
                values[index] = random.nextInt(20) == 0 ? (char) random.nextInt(65536)
                        : WAYS.charAt(random.nextInt(4));
            } else {
                values[index] = number(name, index);
            }
        }
        return values;
    }

    private int number(String name, int index) {
        if (random.nextInt(60) == 0) {
            int[] odd = {-1, Integer.MIN_VALUE, Integer.MAX_VALUE, 5000, 256, 401, 201, 101, 31, 29, 8};
            return odd[random.nextInt(odd.length)];
        }
        switch (name) {
            case "advance":
                return random.nextInt(12) == 0 ? random.nextInt(400) : random.nextInt(12);
            case "weekday": case "isCourtDay": case "addHoliday": case "removeHoliday":
                return someDay();
            case "courtDays": case "courtDaysByMarking":
                return index == 0 ? someDay() : someDay() + random.nextInt(100);
            case "setRule":
                return index == 0 ? random.nextInt(8) : 1 + random.nextInt(random.nextBoolean() ? 20 : 200);
            case "ruleLength": case "countsCourtDays":
                return random.nextInt(8);
            case "setServiceDays":
                return random.nextInt(31);
            case "lastDayBefore": case "lastDayBeforeByMarking":
                return index == 0 ? random.nextInt(8) : someDay();
            case "serve":
                return index == 0 ? below(model.now.names.size()) : random.nextInt(8);
            case "extendByConsent":
                return index == 0 ? below(model.now.deadlines.size()) : random.nextInt(20);
            case "extendByOrder":
                return index == 0 ? below(model.now.deadlines.size()) : random.nextInt(101);
            case "stayParty":
                return index == 0 ? below(model.now.names.size()) : random.nextInt(256);
            case "stayAll":
                return random.nextInt(256);
            case "lift":
                return below(model.now.stays.size());
            case "isStopped": case "stoppedDays": case "stoppedDaysByMarking":
                return index == 0 ? below(model.now.deadlines.size()) : someDay() + index * 20 - 20;
            case "addOccurrence":
                return index == 0 ? below(model.now.today + 1) : random.nextInt(8);
            case "linkOccurrences": case "sameConduct": case "sameConductBySearch": case "barDay":
                return below(model.now.occurrences.size());
            case "fileClaim":
                return below(index == 0 ? model.now.names.size() : model.now.occurrences.size());
            case "amendClaim":
                return below(index == 0 ? model.now.claims.size() : model.now.occurrences.size());
            case "effectiveDay": case "isTimely":
                return below(model.now.claims.size());
            case "timelyClaims": case "nameLength": case "writeNameReversed":
                return below(model.now.names.size());
            case "nameCodePoint":
                return index == 0 ? below(model.now.names.size()) : random.nextInt(4);
            case "charAt":
                return random.nextInt(12);
            default:
                return below(model.now.deadlines.size());
        }
    }

    /** Mostly a number below the given one, sometimes that number itself. */
    private int below(int count) {
        return count == 0 || random.nextInt(15) == 0 ? count : random.nextInt(count);
    }

    private int someDay() {
        int near = model.now.today + random.nextInt(120) - 40;
        return random.nextInt(10) == 0 ? random.nextInt(5000) : Math.max(0, near);
    }

    private String newText() {
        if (random.nextInt(3) == 0) {
            String[] pieces = {"a", "b", "\u00e9", "\ud83d\ude00", "\ud83d", "\ude00", "\u0000", "\uffff"};
            StringBuilder text = new StringBuilder();
            int length = random.nextInt(10) == 0 ? 8 + random.nextInt(2) : 1 + random.nextInt(3);
            for (int count = 0; count < length; count++) {
                text.append(pieces[random.nextInt(random.nextInt(4) == 0 ? 8 : 4)]);
            }
            return text.toString();
        }
        StringBuilder text = new StringBuilder();
        int commands = 1 + random.nextInt(3);
        for (int count = 0; count < commands; count++) {
            text.append(count == 0 ? "" : ";").append(command());
        }
        if (random.nextInt(4) == 0) {
            String signs = "0123 ;pemasdlfh\u0660/:";
            int place = random.nextInt(text.length());
            text.setCharAt(place, signs.charAt(random.nextInt(signs.length())));
        }
        if (random.nextInt(6) == 0) {
            text.setLength(random.nextInt(text.length() + 1));
        }
        return text.toString();
    }

    private String command() {
        int deadline = below(model.now.deadlines.size());
        switch (random.nextInt(7)) {
            case 0:
                return "serve " + below(model.now.names.size()) + " " + random.nextInt(9) + " "
                        + WAYS.charAt(random.nextInt(4));
            case 1:
                return random.nextBoolean() ? "day" : "day " + random.nextInt(30);
            case 2:
                return "stay " + random.nextInt(260);
            case 3:
                return "lift " + below(model.now.stays.size());
            case 4:
                return "more " + deadline + " " + random.nextInt(30);
            case 5:
                return "file " + deadline;
            default:
                return "holiday " + someDay();
        }
    }
}

import java.lang.reflect.InvocationTargetException;
import java.lang.reflect.Method;
import java.util.ArrayList;
import java.util.Arrays;
import java.util.Comparator;
import java.util.List;
import java.util.Random;

/** Random runs of at most 512 calls, the same ones each time, in which the class and the model answer alike. */
public final class ModelTest {
    private static final int RUNS = 1500;
    private static final int CALLS = 512;
    private static final int[] WILD = {
        Integer.MIN_VALUE, Integer.MAX_VALUE, -1, -21, -20, 0, 6, 8, 9, 10, 20, 21, 30, 31, 64, 99, 100,
    };
    private static final String[] COMMANDS = {
        "spoon", "propose", "move", "amend", "postpone", "close", "adjourn", "speak", "vote", "spill", "mop", "sugar",
    };

    private final Random random;
    private final int spillSize;
    private final TeaspoonSalon salon = new TeaspoonSalon();
    private final Model model = new Model();
    private final List<String> calls = new ArrayList<>();
    private boolean wrong;

    private ModelTest(long seed) {
        random = new Random(seed);
        spillSize = 1 + random.nextInt(30);
    }

    public static void main(String[] args) {
        List<Method> methods = methods();
        int wrongRuns = 0;
        int calls = 0;
        for (int run = 0; run < RUNS; run++) {
            ModelTest test = new ModelTest(run);
            test.play(methods, run);
            calls += test.calls.size();
            wrongRuns += test.wrong ? 1 : 0;
        }
        if (wrongRuns > 0) {
            System.out.println(wrongRuns + " of " + RUNS + " runs are not as the model");
            System.exit(1);
        }
        System.out.println(calls + " answers are as the model's");
    }

    private static List<Method> methods() {
        List<Method> methods = new ArrayList<>();
        for (Method method : TeaspoonSalon.class.getMethods()) {
            if (method.getDeclaringClass() == TeaspoonSalon.class) {
                methods.add(method);
            }
        }
        methods.sort(Comparator.comparing(Method::getName));
        return methods;
    }

    private void play(List<Method> methods, int run) {
        prepare();
        while (calls.size() < CALLS - 120 && !wrong) {
            int choice = random.nextInt(100);
            if (choice < 2) {
                typeScript();
            } else if (choice < 40) {
                command();
            } else {
                Method method = methods.get(random.nextInt(methods.size()));
                boolean isRare = List.of("type", "save", "restore", "undo").contains(method.getName());
                if (!isRare || random.nextInt(3) == 0) {
                    call(method.getName(), arguments(method));
                }
            }
        }
        observe();
        if (wrong) {
            System.out.println("run " + run + ": " + calls);
        }
    }

    private void prepare() {
        int spoons = random.nextInt(9);
        for (int i = 0; i < spoons; i++) {
            call("addSpoon", 1 + random.nextInt(9), random.nextInt(100));
        }
        int proposals = random.nextInt(7);
        for (int i = 0; i < proposals; i++) {
            call("propose", random.nextInt(100));
        }
    }

    /** A call that can often succeed, so that the run goes somewhere. */
    private void command() {
        int choice = random.nextInt(12);
        if (choice < 3) {
            call("vote");
        } else if (choice < 5) {
            call("speak", random.nextInt(8));
        } else if (choice == 5) {
            call("moveMain", someProposal());
        } else if (choice == 6) {
            call("moveAmendment", random.nextInt(41) - 20);
        } else if (choice == 7) {
            call("propose", random.nextInt(100));
        } else if (choice == 8) {
            call(random.nextBoolean() ? "moveClosure" : "movePostponement");
        } else if (choice == 9) {
            call("spill", random.nextInt(8), random.nextInt(8), 1 + random.nextInt(spillSize));
        } else if (choice == 10) {
            call("mop", random.nextInt(8), random.nextInt(8));
        } else {
            call("moveAdjournment");
        }
    }

    private int someProposal() {
        int count = model.proposalCount();
        return count == 0 ? 0 : model.proposalAt(random.nextInt(count));
    }

    private Object[] arguments(Method method) {
        Class<?>[] types = method.getParameterTypes();
        Object[] arguments = new Object[types.length];
        for (int i = 0; i < types.length; i++) {
            if (types[i] == char.class) {
                arguments[i] = random.nextInt(8) == 0 ? (char) random.nextInt(300) : "mapcjvote;".charAt(random.nextInt(10));
            } else {
                arguments[i] = number();
            }
        }
        return arguments;
    }

    private int number() {
        switch (random.nextInt(8)) {
            case 0:
                return WILD[random.nextInt(WILD.length)];
            case 1:
                return random.nextInt(100);
            case 2:
                return someProposal();
            default:
                return random.nextInt(9);
        }
    }

    private void typeScript() {
        StringBuilder script = new StringBuilder(oneCommand());
        while (random.nextInt(4) > 0) {
            script.append(';').append(oneCommand());
        }
        if (random.nextInt(4) == 0) {
            int place = random.nextInt(script.length());
            script.setCharAt(place, " ;-0123456789abcdeopst#".charAt(random.nextInt(23)));
        }
        if (random.nextInt(8) == 0) {
            script.setLength(random.nextInt(script.length() + 1));
        }
        call("runScript");
        for (int i = 0; i < script.length() && calls.size() < CALLS - 130; i++) {
            call("type", script.charAt(i));
        }
        call("runScript");
        call("errorPosition");
        call("failedCommand");
    }

    private String oneCommand() {
        String word = COMMANDS[random.nextInt(COMMANDS.length)];
        switch (word) {
            case "spoon":
                return word + " " + random.nextInt(10) + " " + random.nextInt(100);
            case "propose":
                return word + " " + random.nextInt(100);
            case "move":
                return word + " " + someProposal() % 100;
            case "amend":
                return word + " " + (random.nextInt(43) - 21);
            case "speak":
                return word + " " + random.nextInt(9);
            case "spill":
                return word + " " + random.nextInt(9) + random.nextInt(8) + " " + random.nextInt(32);
            case "mop":
                return word + " " + random.nextInt(8) + random.nextInt(8);
            case "sugar":
                return word + " " + random.nextInt(8) + " " + random.nextInt(10);
            default:
                return word;
        }
    }

    /** Looks at all that the calls left behind. */
    private void observe() {
        for (int spoon = 0; spoon < model.spoonCount() && !wrong; spoon++) {
            call("sugar", spoon);
            call("speeches", spoon);
            call("spoonBySugar", spoon);
        }
        for (int place = 0; place < model.proposalCount() && !wrong; place++) {
            int id = model.proposalAt(place);
            call("proposalAt", place);
            call("bestOrder", place);
            call("isInTop", id);
            call("isInTopBySets", id);
        }
        call("fewestDisagreements");
        call("fewestDisagreementsByOrders");
        call("isConsistent");
        call("sugarByAccounts");
        int length = model.renderTable();
        call("renderTable");
        for (int index = 0; index <= length; index++) {
            call("outputAt", index);
        }
    }

    private void call(String name, Object... arguments) {
        if (wrong || calls.size() >= CALLS) {
            return;
        }
        Object due = answer(model, name, arguments);
        Object got = answer(salon, name, arguments);
        calls.add(name + Arrays.toString(arguments) + " " + got);
        if (!due.equals(got)) {
            wrong = true;
            System.out.println(name + Arrays.toString(arguments) + " answered " + got + ", the model's is " + due);
        }
    }

    private static Object answer(Object target, String name, Object[] arguments) {
        Class<?>[] types = new Class<?>[arguments.length];
        for (int i = 0; i < types.length; i++) {
            types[i] = arguments[i] instanceof Character ? char.class : int.class;
        }
        try {
            return target.getClass().getMethod(name, types).invoke(target, arguments);
        } catch (InvocationTargetException thrown) {
            return "throws " + thrown.getCause().getClass().getSimpleName();
        } catch (ReflectiveOperationException thrown) {
            throw new IllegalStateException(thrown);
        }
    }
}

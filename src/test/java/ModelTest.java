import java.lang.reflect.Method;
import java.util.Arrays;
import java.util.Random;

/** Long runs of calls, the same on the program and on the model: all answers must be alike. */
public final class ModelTest {
    /** Each call with what its arguments are: s a SOUL, d a DEED, w a what, l a LOAF .. */
    private static final String[] CALLS = {"soul sw", "soul sw", "soul sw", "does sd", "does sd", "does sd", "says sS",
        "says sS", "says sS", "says sS", "feud ss", "bread", "bread", "undo", "undo", "redo", "redo", "stone", "fed",
        "feeds b", "feeds b", "richest", "steady", "isSteady", "rest", "rest", "silent", "spoiler w", "claims s",
        "peace w", "pairs", "alike", "makes sl", "wants slw", "warm sl", "will sn", "odds solw", "soonest sl",
        "lies s", "lies s", "report yyhl", "report yyhr", "report yyhr", "untell u", "later t", "fit k", "sets k",
        "sure dk", "ask yywk", "course wk", "image x", "back x", "about w", "about w", "about w", "fault w", "end e"};

    private final Random random;
    private final Due due;
    private OvenNames program = new OvenNames();
    private OvenModel model = new OvenModel();
    private final StringBuilder run = new StringBuilder();

    private ModelTest(long seed, Due due) {
        this.random = new Random(seed);
        this.due = due;
    }

    public static void main(String[] args) throws Exception {
        int runs = args.length > 0 ? Integer.parseInt(args[0]) : 400;
        long first = args.length > 1 ? Long.parseLong(args[1]) : 1;
        Due due = new Due("ModelTest");
        for (long seed = first; seed < first + runs && due.wrong() == 0; seed++) {
            new ModelTest(seed, due).runOnce();
        }
        for (long seed = first; seed < first + runs * 10L && due.wrong() == 0; seed++) {
            new ModelTest(seed, due).readOnce();
        }
        due.finish();
    }

    private void runOnce() throws Exception {
        tell(new TextMaker(random).make(false));
        int calls = 20 + random.nextInt(200);
        for (int i = 0; i < calls && due.wrong() == 0; i++) {
            if (random.nextInt(90) == 0) {
                tell(new TextMaker(random).make(true));
            }
            String[] call = CALLS[random.nextInt(CALLS.length)].split(" ");
            Integer[] numbers = new Integer[call.length > 1 ? call[1].length() : 0];
            for (int j = 0; j < numbers.length; j++) {
                numbers[j] = number(call[1].charAt(j));
            }
            if (call[0].equals("report") && call[1].endsWith("r") && program.about(1) > 0) {
                numbers[3] = loafThatMayBe(numbers);
            }
            compare(call[0], numbers);
            lookAround();
        }
    }

    private void readOnce() throws Exception {
        tell(new TextMaker(random).make(true));
        lookAround();
    }

    private void tell(String text) throws Exception {
        run.append("text ").append(text.replace("\n", "\\n")).append("\n");
        for (int at = 0; at < text.length(); at += 20) {
            Integer[] five = {0, 0, 0, 0, 0};
            for (int i = 0; i < 20 && at + i < text.length(); i++) {
                five[i / 4] |= text.charAt(at + i) << (24 - i % 4 * 8);
            }
            compare("feed", five);
        }
        compare("end", text.length());
        compare("village");
        compare("fault", 0);
        compare("fault", 1);
    }

    private int number(char kind) {
        boolean isOdd = random.nextInt(25) == 0;
        int[] far = {random.nextInt(), Integer.MIN_VALUE, Integer.MAX_VALUE, 31, 32, 1 << 30};
        int odd = random.nextInt(4) == 0 ? far[random.nextInt(far.length)] : random.nextInt(12) - 4;
        switch (kind) {
            case 's': return isOdd ? odd : random.nextInt(Math.max(1, program.about(0)));
            case 'S': return isOdd ? odd : random.nextInt(Math.max(1, program.about(0)) + 1) - 1;
            case 'd': return isOdd ? odd : random.nextInt(Math.max(1, program.about(1)));
            case 'w': return isOdd ? odd : random.nextBoolean() ? random.nextInt(2) : random.nextInt(15);
            case 'b': return isOdd ? odd : random.nextInt(1 << program.about(0));
            case 'n': return isOdd ? odd : random.nextInt(63);
            case 'o': return isOdd ? odd : random.nextInt(4);
            case 'y': return isOdd ? odd : random.nextInt(random.nextInt(4) == 0 ? 101 : 3);
            case 'h': return isOdd ? odd : random.nextInt(10);
            case 'l':
            case 'r': return isOdd ? odd : random.nextInt(random.nextBoolean() ? 30 : 102);
            case 'u': return isOdd ? odd : random.nextInt(1 + Math.max(0, program.about(9)));
            case 't': return isOdd ? odd * 150 : random.nextInt(4);
            case 'k': return isOdd ? odd : program.about(10) - random.nextInt(5) + 1;
            case 'x': return isOdd ? odd : random.nextInt(3);
            default: return isOdd ? odd : 0;
        }
    }

    /** A LOAF that some set of DEEDS makes, so that some sets still FIT. */
    private int loafThatMayBe(Integer[] numbers) throws Exception {
        Method formula = OvenModel.class.getDeclaredMethod("formula", int.class, int.class, int.class, int.class,
                int.class);
        formula.setAccessible(true);
        int sets = program.sets(program.about(10));
        int set = sets == 0 ? 0 : Integer.numberOfTrailingZeros(sets);
        return (Integer) formula.invoke(model, set, numbers[0], numbers[1], numbers[2], 0);
    }

    private void lookAround() throws Exception {
        for (int what = 0; what < 14; what++) {
            compare("about", what);
        }
        for (int soul = 0; soul < program.about(0); soul++) {
            for (int what = 0; what < 10; what++) {
                compare("soul", soul, what);
            }
            compare("lies", soul);
        }
    }

    private void compare(String name, Integer... numbers) throws Exception {
        String call = name + Arrays.toString(numbers).replace('[', '(').replace(']', ')');
        boolean isLook = name.equals("about") || name.equals("soul") || name.equals("lies");
        if (!isLook) {
            run.append(call).append("\n");
        }
        int before = due.wrong();
        due.is(call, answer(program, name, numbers), answer(model, name, numbers));
        if (due.wrong() > before) {
            System.out.println("the run was:\n" + run);
        }
    }

    private static long answer(Object on, String name, Integer[] numbers) throws Exception {
        Class<?>[] kinds = new Class<?>[numbers.length];
        Arrays.fill(kinds, int.class);
        Method method = on.getClass().getDeclaredMethod(name, kinds);
        Object got = method.invoke(on, (Object[]) numbers);
        return got instanceof Boolean ? ((Boolean) got ? 1 : 0) : (Integer) got;
    }
}

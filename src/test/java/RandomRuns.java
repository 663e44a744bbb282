import java.lang.reflect.InvocationTargetException;
import java.lang.reflect.Method;
import java.lang.reflect.Parameter;
import java.util.ArrayList;
import java.util.List;
import java.util.TreeMap;

/**
 * Long runs of calls, made by numbers from a fixed seed, on the program and on Model; each answer must be the same.
 * The argument gives how many runs there are. Compiled with -parameters: the names of Model's parameters choose the numbers.
 */
public final class RandomRuns {

    private static final int CALLS = 512;
    private static final int[] EXTREMES = {Integer.MIN_VALUE, Integer.MIN_VALUE + 1, -1000, -1, 0, 1, 7, 36, 61, 100, 1000,
        Integer.MAX_VALUE - 1, Integer.MAX_VALUE};

    private final TreeMap<String, Method> programs = new TreeMap<>();
    private final List<Method> models = new ArrayList<>();
    private final TreeMap<String, TreeMap<Long, Integer>> answers = new TreeMap<>();
    private long seed;
    private SeenFromBehind x;
    private Model model;
    private int calls;
    private int area;
    private boolean longNights;
    private StringBuilder log;

    public static void main(String[] args) throws Exception {
        int runs = args.length > 0 ? Integer.parseInt(args[0]) : 400;
        RandomRuns all = new RandomRuns();
        boolean good = Due.test("random runs against the model (" + runs + ")", due -> {
            for (int i = 1; i <= runs && all.run(i, due); i++) {
                continue;
            }
        });
        good &= Due.test("random runs meet every call with several answers", all::checkAnswers);
        if (args.length > 1) {
            System.out.println(all.answers);
        }
        if (!good) {
            System.exit(1);
        }
    }

    private RandomRuns() {
        for (Method m : SeenFromBehind.class.getDeclaredMethods()) {
            if (java.lang.reflect.Modifier.isPublic(m.getModifiers())) {
                programs.put(m.getName(), m);
            }
        }
        for (Method m : Model.class.getDeclaredMethods()) {
            if (programs.containsKey(m.getName()) && !java.lang.reflect.Modifier.isPrivate(m.getModifiers())) {
                models.add(m);
            }
        }
        models.sort((a, b) -> a.getName().compareTo(b.getName()));
    }

    private void checkAnswers(Due due) {
        for (Method m : models) {
            int seen = answers.getOrDefault(m.getName(), new TreeMap<>()).size();
            due.holds(m.getName() + " gave only " + seen + " answers", seen >= 2);
        }
        due.is("methods of the model", models.size(), programs.size());
    }

    private boolean run(int number, Due due) {
        seed = 1000003L * number;
        x = new SeenFromBehind();
        model = new Model();
        calls = 0;
        area = draw(3);
        longNights = draw(5) == 0;
        log = new StringBuilder();
        while (calls < CALLS) {
            if (!act(due)) {
                due.holds("run " + number + ":" + log, false);
                return false;
            }
        }
        return true;
    }

    private boolean act(Due due) {
        int choice = draw(100);
        if (choice < 6) {
            return feedStatements(due);
        }
        if (choice < 9) {
            return tellComingFaces(due);
        }
        if (choice < 11) {
            return tellCells(due);
        }
        if (choice < 18) {
            return call(due, "person", kind(), draw(10), cell(), draw(4));
        }
        if (choice < 26 && longNights) {
            return call(due, "nights", draw(62));
        }
        Method m = models.get(draw(models.size()));
        // What makes all new, or passes many nights, comes seldom, so that hills live for a while.
        boolean seldom = m.getName().equals("restore") || m.getName().equals("nights") || m.getName().equals("turnAll");
        if (seldom && draw(longNights ? 60 : 6) > 0) {
            return true;
        }
        Parameter[] parameters = m.getParameters();
        int[] numbers = new int[parameters.length];
        for (int i = 0; i < numbers.length; i++) {
            numbers[i] = draw(40) == 0 ? EXTREMES[draw(EXTREMES.length)] : number(m.getName(), parameters[i].getName());
        }
        return call(due, m.getName(), numbers);
    }

    private int number(String name, String parameter) {
        switch (parameter) {
            case "person":
            case "one":
            case "other":
                return draw(12) == 0 ? edge(0, 5) : draw(Math.max(1, model.count(0)));
            case "what":
                return name.equals("count") ? (draw(3) > 0 ? draw(8) : draw(20)) : draw(12) == 0 ? edge(0, 6) : draw(draw(3) == 0 ? 7 : 2);
            case "faces":
            case "f":
                return draw(12) == 0 ? edge(0, 3) : draw(4);
            case "cell":
                return draw(12) == 0 ? edge(0, 35) : cell();
            case "kind":
                return draw(12) == 0 ? edge(0, 5) : draw(6);
            case "figure":
                return draw(12) == 0 ? edge(0, 9) : draw(10);
            case "d":
                return draw(6) == 0 ? edge(0, 6) : draw(7);
            case "t":
                return draw(12) == 0 ? edge(2, 20) : 2 + draw(19);
            case "part":
                return draw(12) == 0 ? edge(0, 1) : draw(2);
            case "v":
                return draw(12) == 0 ? edge(0, 99) : draw(4);
            case "letter":
                return draw(12) == 0 ? edge(0, 255) : "pfcn;0123456789".charAt(draw(15));
            case "z":
                return (draw(1 << 16) << 16) + draw(1 << 16);
            default:
                return nights(name);
        }
    }

    private int nights(String name) {
        switch (name) {
            case "slept":
                return draw(12) == 0 ? edge(0, 8) : draw(6);
            case "lots":
                return draw(12) == 0 ? edge(1, 20) : 1 + draw(5);
            default:
                return draw(12) == 0 ? edge(0, 60) : draw(draw(4) == 0 ? 61 : 6);
        }
    }

    private int edge(int least, int most) {
        return new int[] {least - 1, least, most, most + 1}[draw(4)];
    }

    private int kind() {
        return draw(6);
    }

    /** In some runs all stand close together, so that they see one another often. */
    private int cell() {
        if (area == 0) {
            return draw(36);
        }
        return area == 1 ? 6 * (1 + draw(3)) + 1 + draw(4) : 6 * (draw(5)) + 2 + draw(2);
    }

    private int draw(int n) {
        seed = seed * 6364136223846793005L + 1442695040888963407L;
        return (int) ((seed >>> 33) % n);
    }

    private boolean feedStatements(Due due) {
        StringBuilder text = new StringBuilder();
        int statements = draw(5) == 0 ? draw(14) : 1 + draw(3);
        for (int i = 0; i < statements; i++) {
            text.append(statement());
        }
        if (draw(4) == 0 && text.length() > 0) {
            text.setCharAt(draw(text.length()), (char) (draw(2) == 0 ? draw(256) : "pfcn;059".charAt(draw(8))));
        }
        if (draw(8) == 0 && text.length() > 0) {
            text.setLength(draw(text.length()));
        }
        for (int i = 0; i < text.length() && calls < CALLS; i++) {
            if (!call(due, "feed", text.charAt(i))) {
                return false;
            }
        }
        return call(due, "hill");
    }

    private String statement() {
        switch (draw(6)) {
            case 0:
            case 1:
                return "p" + draw(draw(9) == 0 ? 10 : 6) + draw(10) + twoDigits(draw(9) == 0 ? draw(100) : cell()) + draw(draw(9) == 0 ? 10 : 4) + ";";
            case 2:
            case 3:
                return "f" + someone() + draw(draw(9) == 0 ? 10 : 4) + ";";
            case 4:
                return "c" + someone() + twoDigits(draw(9) == 0 ? draw(100) : cell()) + ";";
            default:
                return "n" + twoDigits(draw(5) == 0 ? draw(100) : 1 + draw(3)) + ";";
        }
    }

    private int someone() {
        return draw(9) == 0 ? draw(10) : draw(Math.max(1, model.count(0)));
    }

    private static String twoDigits(int n) {
        return "" + n / 10 + n % 10;
    }

    private boolean tellComingFaces(Due due) {
        int person = draw(6);
        if (person >= model.count(0)) {
            return true;
        }
        boolean good = call(due, "clear");
        int many = 1 + draw(12);
        for (int i = 0; i < many && good; i++) {
            good = call(due, "row", model.behind(person, i, 1));
        }
        for (int what = 0; what < 3 && good; what++) {
            good = call(due, "which", person, what);
        }
        return good;
    }

    private boolean tellCells(Due due) {
        boolean good = call(due, "clear");
        int many = 1 + draw(7);
        for (int i = 0; i < many && good; i++) {
            boolean so = i < model.count(0) && draw(8) > 0;
            good = call(due, "row", so ? model.personOf(i, 2) : draw(36));
        }
        return good && call(due, "judge");
    }

    private boolean call(Due due, String name, int... numbers) {
        calls++;
        Object[] arguments = new Object[numbers.length];
        StringBuilder text = new StringBuilder(name);
        for (int i = 0; i < numbers.length; i++) {
            arguments[i] = numbers[i];
            text.append(i == 0 ? "(" : ", ").append(numbers[i]);
        }
        text.append(numbers.length == 0 ? "()" : ")");
        log.append(' ').append(text);
        Method ofModel = models.stream().filter(m -> m.getName().equals(name)).findFirst().orElseThrow();
        long want = invoke(ofModel, model, arguments);
        long got = invoke(programs.get(name), x, arguments);
        answers.computeIfAbsent(name, key -> new TreeMap<>()).merge(got, 1, Integer::sum);
        due.is(text.toString(), got, want);
        return got == want;
    }

    private static long invoke(Method m, Object on, Object[] arguments) {
        try {
            return ((Number) m.invoke(on, arguments)).longValue();
        } catch (IllegalAccessException | InvocationTargetException e) {
            throw new IllegalStateException(m.getName(), e.getCause() == null ? e : e.getCause());
        }
    }
}

import java.lang.reflect.InvocationTargetException;
import java.lang.reflect.Method;
import java.util.ArrayList;
import java.util.HashMap;
import java.util.List;
import java.util.Map;
import java.util.NoSuchElementException;
import java.util.Random;
import java.util.TreeMap;

/** Runs of calls by a fixed seed, each answer held against Model's. */
public final class ModelTest {
    private static final int RUNS = Integer.getInteger("runs", 400);
    private static final int CALLS = Integer.getInteger("calls", 160);
    private static final Map<String, Method> METHODS = new HashMap<>();
    private static final Map<String, Map<String, Integer>> ANSWERS = new TreeMap<>();
    private static final List<String> QUESTIONS = new ArrayList<>();

    private final Random random;
    private final CuckooMayor real = new CuckooMayor();
    private final Model model = new Model();
    private final List<String> told = new ArrayList<>();
    private boolean wrong = false;

    private ModelTest(long seed) { random = new Random(seed); }

    public static void main(String[] args) {
        for (Method m : CuckooMayor.class.getMethods()) {
            if (m.getDeclaringClass() == CuckooMayor.class) METHODS.put(m.getName(), m);
        }
        for (String name : new java.util.TreeSet<>(METHODS.keySet())) {
            if (!List.of("feed", "borough", "hours", "wind", "oil", "spider", "bribe", "move", "undo", "see", "forget", "image", "restore").contains(name)) {
                QUESTIONS.add(name);
            }
        }
        int failures = 0;
        for (int run = 0; run < RUNS && failures < 5; run++) {
            ModelTest test = new ModelTest(run + Long.getLong("seed", 0));
            test.run();
            if (test.wrong) {
                failures++;
                System.out.println("run " + run + ":");
                test.told.forEach(row -> System.out.println("  " + row));
            }
        }
        if (Boolean.getBoolean("spread")) {
            ANSWERS.forEach((name, map) -> System.out.println(name + " " + map.size() + " "
                + map.entrySet().stream().sorted((x, y) -> y.getValue() - x.getValue()).limit(14).toList()));
        }
        for (String name : METHODS.keySet()) {
            if (!ANSWERS.containsKey(name)) { failures++; System.out.println(name + " was never called"); }
        }
        System.out.println(failures == 0 ? "the model agrees" : failures + " runs differ from the model");
        if (failures != 0) System.exit(1);
    }

    private int below(int n) { return random.nextInt(n); }
    private boolean chance(int percent) { return below(100) < percent; }
    private String pick(String... of) { return of[below(of.length)]; }

    private void run() {
        int calls = CALLS;
        if (chance(90)) tell();
        for (int i = 0; i < calls && !wrong; i++) {
            int c = below(100);
            if (c < 4) tell();
            else if (c < 30) act();
            else if (c < 33) call("undo");
            else if (c < 38) see();
            else if (c < 39) call("forget");
            else if (c < 40) call("image");
            else if (c < 41) call("restore");
            else if (c < 42) tellNonsense();
            else question();
        }
    }

    private int number(int low, int high) {
        if (chance(94)) return low + below(high - low + 1);
        int[] odd = {low - 1, high + 1, low, high, Integer.MIN_VALUE, Integer.MAX_VALUE, -1, 0};
        return odd[below(odd.length)];
    }

    private void act() {
        switch (below(10)) {
            case 0: case 1: case 2: case 3: call("hours", chance(70) ? number(1, 9) : number(1, 48)); break;
            case 4: call("wind", number(1, chance(70) ? 30 : 99)); break;
            case 5: call("oil", number(1, chance(70) ? 9 : 99)); break;
            case 6: call("spider", number(1, chance(70) ? 4 : 24)); break;
            case 7: call("bribe", alderman(), number(1, 9)); break;
            default: call("move", motion(), number(0, chance(70) ? 12 : 24)); break;
        }
    }

    private void see() {
        if (chance(80)) {
            int k = 1 + below(48);
            int said = real.saying(k);
            call("see", k, chance(30) ? said / 2 : chance(10) ? number(-1, 24) : said);
        } else {
            call("see", number(1, 48), number(-1, 24));
        }
    }

    private void question() {
        String name = QUESTIONS.get(below(QUESTIONS.size()));
        switch (name) {
            case "fault": case "idle": call(name); break;
            case "count": call(name, number(0, 15)); break;
            case "alderman": call(name, alderman(), number(0, 2)); break;
            case "motion": call(name, motion(), number(0, 6)); break;
            case "saying": case "passing": case "toOil": case "word": case "toWind": call(name, number(name.startsWith("to") || name.equals("saying") ? 1 : 0, 96)); break;
            case "then": case "hush": call(name, number(0, 96), number(0, 1)); break;
            case "calls": call(name, number(0, 24), number(0, 96)); break;
            case "fails": case "order": case "listen": call(name, number(0, 1)); break;
            case "fouled": call(name, number(0, 2)); break;
            case "moving": call(name, motion(), number(0, 1)); break;
            case "votes": case "bought": case "bribery": call(name, motion(), number(0, 24)); break;
            case "allies": call(name, alderman(), alderman()); break;
            case "game": call(name, motion(), motion(), number(0, 1)); break;
            case "years": call(name, random.nextInt(), number(0, 96), number(0, 2)); break;
            default: call(name, motion()); break;
        }
    }

    private void call(String name, int... args) {
        String mine = real(name, args);
        String due;
        try {
            due = Long.toString(model.answer(name, args));
        } catch (NoSuchElementException | IllegalArgumentException e) {
            due = e.getClass().getSimpleName();
        }
        ANSWERS.computeIfAbsent(name, n -> new HashMap<>()).merge(mine, 1, Integer::sum);
        told.add(name + java.util.Arrays.toString(args) + " = " + mine);
        if (!mine.equals(due)) {
            wrong = true;
            told.add("due is " + due);
        }
    }

    private String real(String name, int[] args) {
        Object[] boxed = new Object[args.length];
        for (int i = 0; i < args.length; i++) boxed[i] = args[i];
        try {
            Object answer = METHODS.get(name).invoke(real, boxed);
            if (answer == null) return "0";
            return answer instanceof Boolean b ? (b ? "1" : "0") : answer.toString();
        } catch (InvocationTargetException e) {
            return e.getCause().getClass().getSimpleName();
        } catch (IllegalAccessException e) {
            return "cannot be called";
        }
    }

    // ---- texts

    private void tell() {
        String text = text();
        if (text.length() > 700) text = text.substring(0, 700);
        told.add("text: " + text);
        StringBuilder padded = new StringBuilder(text);
        while (padded.length() % 20 != 0) padded.append(' ');
        for (int i = 0; i < padded.length(); i += 20) {
            int[] five = new int[5];
            for (int b = 0; b < 20; b++) five[b / 4] = five[b / 4] << 8 | padded.charAt(i + b) & 255;
            call("feed", five);
        }
        call("borough", chance(2) ? below(padded.length() + 1) : text.length());
        call("fault");
    }

    /** Leaves the tape empty, and all else as it was. */
    private void tellNonsense() {
        int feeds = chance(20) ? 37 : 1 + below(3);
        for (int i = 0; i < feeds; i++) call("feed", 'A' << 24, random.nextInt(), random.nextInt(), 0, -1);
        call("count", 12);
        call("borough", 701);
        call("borough", -1 - below(2));
        call("fault");
        call("borough", 1 + below(20));
        call("fault");
        call("count", 13);
    }

    private int alderman() { return number(0, Math.max(0, real.count(0) - 1)); }
    private int motion() { return number(0, Math.max(0, real.count(1) - 1)); }

    private String text() {
        StringBuilder b = new StringBuilder();
        List<String> lines = new ArrayList<>();
        if (chance(80)) lines.add("clock " + below(chance(60) ? 30 : 100) + " " + below(chance(30) ? 30 : 100) + " " + below(chance(75) ? 120 : 1000));
        int aldermen = chance(3) ? 8 : chance(70) ? 1 + below(5) : below(8);
        for (int i = 0; i < aldermen; i++) lines.add("alderman " + pick("", "", "-") + below(chance(70) ? 5 : 10) + " " + below(10));
        int motions = chance(3) ? 11 : chance(80) ? 4 + below(7) : below(11);
        for (int i = 0; i < motions; i++) {
            lines.add("M" + pick("law", "feast", "toll") + " " + below(chance(80) ? 13 : 25) + " " + below(chance(60) ? 40 : 100) + " " + pick("", "", "-") + below(10));
        }
        if (chance(60)) lines.add("says " + (chance(60) ? pick("hour", "hour+day", "weight/4", "oil", "hour*2-1", "hour+oil", "13-hour", "5", "hour/2") : expr(chance(5) ? 9 : 3, SAYS)));
        if (chance(60)) lines.add("votes " + (chance(60) ? pick("lean+joy+heard-cost/9", "heard<6", "lean+heard/4", "joy-lean", "not kind", "passed<3 and lean+joy>0", "lean=3 or lean=9", "heard-3") .replace(">0", "") : expr(chance(5) ? 9 : 3, VOTES)));
        java.util.Collections.shuffle(lines, random);
        int told = 0;
        for (String line : lines) {
            if (line.startsWith("M")) {
                b.append(line.substring(1));
                if (told > 0 && chance(45) || chance(1)) b.append(" behind ").append(chance(97) && told > 0 ? below(told) : below(14));
                told++;
            } else {
                b.append(line);
            }
            b.append(chance(10) ? " ;\n" : ";");
        }
        if (chance(2)) b.append(lines.isEmpty() ? "clock" : lines.get(0)).append(';');
        return chance(30) ? spoil(b.toString()) : b.toString();
    }

    private String spoil(String text) {
        StringBuilder b = new StringBuilder(text);
        int times = 1 + below(2);
        for (int i = 0; i < times; i++) {
            int at = below(b.length() + 1);
            String put = pick("", ";", "(", ")", "+", "-", "*", "/", "<", "=", " 7 ", " 12345 ", " 100 ", " not ", " and ", " or ", " hour ", " lean ",
                " law ", " clock ", " says ", " behind ", "x", "A", "\t", "\u00e9", "\0", " not not not not not not not ", "((((((", "))))))", " passed ");
            if (chance(50) && at < b.length()) b.deleteCharAt(at);
            b.insert(Math.min(at, b.length()), put);
        }
        return chance(10) ? b.substring(0, below(b.length() + 1)) : b.toString();
    }

    private static final String[] SAYS = {"hour", "oil", "weight", "day"};
    private static final String[] VOTES = {"heard", "lean", "cost", "joy", "kind", "passed"};

    private String expr(int depth, String[] values) {
        if (depth <= 0 || chance(20)) return chance(50) ? pick(values) : Integer.toString(below(chance(90) ? 20 : 10000));
        switch (below(8)) {
            case 0: return "(" + expr(depth - 1, values) + ")";
            case 1: return "not ".repeat(1 + below(chance(95) ? 3 : 7)) + expr(depth - 1, values);
            case 2: return expr(depth - 1, values) + pick(" or ", " and ") + expr(depth - 2, values);
            case 3: return expr(depth - 1, values) + pick("<", " = ") + expr(depth - 2, values);
            case 4: return "(" + expr(depth - 1, values) + ")" + pick("<", "=", "*", "/") + "(" + expr(depth - 2, values) + ")";
            default: return expr(depth - 1, values) + pick("+", "-", "*", "/") + expr(depth - 2, values);
        }
    }
}

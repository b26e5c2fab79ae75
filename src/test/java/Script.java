import java.lang.reflect.Method;
import java.util.ArrayList;
import java.util.Arrays;
import java.util.List;
import java.util.regex.Matcher;
import java.util.regex.Pattern;

/**
 * A run of calls on a new object, one in each line, with the answer that is due:
 * <pre>
 * write 4:01;12;                appends these characters
 * load() = 2                    a call and its answer
 * refused removeEdge(2) = INVALID
 *                               a call that must change nothing, which is looked at from all sides
 * position(1, 0, 0) = bits 1    a float's bits
 * # a line that is only read by people
 * </pre>
 * Each call is also made on a ReferenceDrawing, so that the answer that is due is looked at twice.
 */
final class Script {
    /** What later calls answer is free. */
    private static final int MAX_CALLS = 512;
    private static final Pattern CALL = Pattern.compile("(\\w+)\\(([^)]*)\\)");

    private static int wrong = 0;
    private static int refusals = 0;

    private final String title;
    private final PlainDrawing own = new PlainDrawing();
    private final ReferenceDrawing reference = new ReferenceDrawing();
    private final List<String> lines = new ArrayList<>();
    private int calls = 0;

    private Script(String title) {
        this.title = title;
    }

    static Script run(String title, String... parts) {
        Script script = new Script(title);
        for (String part : parts) script.go(part);
        return script;
    }

    /** Prints how it went, and ends the program if something was wrong. */
    static void finish(String what) {
        System.out.println(wrong == 0 ? what + " hold, " + refusals + " refused calls changed nothing"
            : wrong + " things are not as due");
        if (wrong != 0) System.exit(1);
    }

    Script go(String text) {
        for (String line : text.split("\n")) {
            if (!line.isBlank() && !line.strip().startsWith("#")) {
                if (line.strip().startsWith("refused ")) refuse(line.strip().substring(8));
                else obey(line.strip());
            }
        }
        return this;
    }

    /** Appends all characters, also the spaces at the ends, which go() takes off. */
    Script write(String text) {
        for (char sign : text.toCharArray()) ask("appendCharacter(" + (int) sign + ")");
        return this;
    }

    /** The answer of a call, which the reference must answer too. */
    int ask(String call) {
        lines.add(call);
        int got = invoke(own, call);
        int model = invoke(reference, call);
        calls++;
        if (calls > MAX_CALLS) complain("there are more than " + MAX_CALLS + " calls");
        if (got != model) complain(call + " answered " + got + ", the reference " + model);
        return got;
    }

    void same(String what, int got, int want) {
        if (got != want) complain(what + " is " + got + ", due is " + want);
    }

    private void obey(String line) {
        if (line.startsWith("write ")) {
            write(line.substring(6));
            return;
        }
        int equals = line.indexOf(" = ");
        if (equals < 0) throw new IllegalArgumentException("no answer in '" + line + "'");
        same(line, ask(line.substring(0, equals)), answer(line.substring(equals + 3).strip()));
    }

    private static int answer(String text) {
        switch (text) {
            case "INVALID": return PlainDrawing.INVALID_ARGUMENT;
            case "ILLEGAL": return PlainDrawing.ILLEGAL_STATE;
            case "FULL": return PlainDrawing.CAPACITY_EXCEEDED;
            case "NONE": return PlainDrawing.NONE;
            default:
                return text.startsWith("bits ") ? Float.floatToIntBits(Float.parseFloat(text.substring(5)))
                    : Integer.parseInt(text);
        }
    }

    /** The same run with and without the refused call must look the same ever after. */
    private void refuse(String line) {
        refusals++;
        int equals = line.indexOf(" = ");
        String call = line.substring(0, equals);
        List<String> before = new ArrayList<>(lines);
        for (int probe = 0; probe < 3; probe++) {
            Script without = replay(before);
            Script with = replay(before);
            same(line, with.ask(call), answer(line.substring(equals + 3)));
            List<Integer> want = without.look(probe);
            List<Integer> got = with.look(probe);
            if (!got.equals(want)) complain(call + " has changed something: " + got + ", due is " + want);
        }
    }

    private Script replay(List<String> before) {
        Script script = new Script(title);
        for (String call : before) script.ask(call);
        return script;
    }

    private List<Integer> look(int probe) {
        List<Integer> seen = new ArrayList<>();
        if (probe == 0) {
            lookAround(seen);
            for (int what = 2; what < 7; what++) seen.add(ask("count(" + what + ")"));
            for (int d = 0; d < 2 * own.count(1); d++) seen.add(ask("faceOf(" + d + ")"));
        } else if (probe == 1) {
            for (int left = 1; left >= 0; ) {
                lookAround(seen);
                left = ask("undo()");
                seen.add(left);
            }
        } else {
            seen.add(ask("load()"));
            seen.add(ask("clearText()"));
            lookAround(seen);
        }
        return seen;
    }

    private void lookAround(List<Integer> seen) {
        for (int what : new int[] {0, 1, 5, 7}) seen.add(ask("count(" + what + ")"));
        for (int node = 0; node < own.count(0); node++) {
            int k = 0;
            while (own.rotation(node, k) >= 0) seen.add(ask("rotation(" + node + ", " + k++ + ")"));
            seen.add(ask("rotation(" + node + ", " + k + ")"));
        }
    }

    private void complain(String what) {
        wrong++;
        System.out.println(title);
        System.out.println("    " + what);
    }

    private static int invoke(Object object, String call) {
        Matcher matcher = CALL.matcher(call);
        if (!matcher.matches()) throw new IllegalArgumentException("no call: '" + call + "'");
        String[] words = matcher.group(2).isBlank() ? new String[0] : matcher.group(2).split(",");
        Class<?>[] types = new Class<?>[words.length];
        Arrays.fill(types, int.class);
        Object[] arguments = new Object[words.length];
        for (int i = 0; i < words.length; i++) arguments[i] = number(words[i].strip());
        try {
            Method method = object.getClass().getDeclaredMethod(matcher.group(1), types);
            return (Integer) method.invoke(object, arguments);
        } catch (ReflectiveOperationException problem) {
            throw new IllegalStateException(call + ": " + problem + " by " + problem.getCause());
        }
    }

    private static int number(String word) {
        if (word.equals("MIN")) return Integer.MIN_VALUE;
        return word.equals("MAX") ? Integer.MAX_VALUE : Integer.parseInt(word);
    }
}

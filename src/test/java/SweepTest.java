import java.lang.reflect.Method;
import java.util.ArrayList;
import java.util.Arrays;
import java.util.List;

/** All arguments in and just outside their ranges, in some states, against ReferenceDrawing. */
public final class SweepTest {
    private static final int MAX_CALLS = 512;
    /** Besides its own range, each argument takes these. */
    private static final int[] FAR = {Integer.MIN_VALUE, -20, Integer.MAX_VALUE};

    private static final String[] STATES = {
        "", "2:", "2:01;", "4:03;", "5:01;02;03;", "5:01;02;03;12;13;23;", "6:01;12;20;34;", "6:03;04;05;13;14;15;23;24;25;",
        "8:01;02;03;12;13;23;45;46;47;56;57;67;", "9:01;02;03;04;05;06;07;08;",
        "9:35;08;45;23;28;02;15;01;13;12;06;27;68;05;34;38;37;58;48;16;"
    };

    private static int total = 0;

    private final String state;
    private PlainDrawing own;
    private ReferenceDrawing reference;
    private int calls = MAX_CALLS;

    private SweepTest(String state) {
        this.state = state;
    }

    /** A new object in the state that is swept; an outer face that is not 0 shows more. */
    private void renew() {
        own = new PlainDrawing();
        reference = new ReferenceDrawing();
        calls = 0;
        if (!state.isEmpty()) {
            for (char sign : state.toCharArray()) both("appendCharacter", (int) sign);
            both("load");
        }
        both("appendCharacter", 50);
        both("setOuter", own.count(3) - 1);
    }

    private int both(String name, int... args) {
        calls++;
        total++;
        int got = invoke(own, name, args);
        int want = invoke(reference, name, args);
        if (got != want) {
            System.out.println("'" + state + "': " + name + Arrays.toString(args) + " answered " + got + ", due is " + want);
            System.exit(1);
        }
        return got;
    }

    private static int invoke(Object object, String name, int[] args) {
        Class<?>[] types = new Class<?>[args.length];
        Arrays.fill(types, int.class);
        Object[] boxed = new Object[args.length];
        for (int i = 0; i < args.length; i++) boxed[i] = args[i];
        try {
            Method method = object.getClass().getDeclaredMethod(name, types);
            return (Integer) method.invoke(object, boxed);
        } catch (ReflectiveOperationException problem) {
            throw new IllegalStateException(name + Arrays.toString(args) + ": " + problem + " by " + problem.getCause());
        }
    }

    /** A range with two numbers more on each side, and the far numbers. */
    private static int[] around(int first, int last) {
        List<Integer> values = new ArrayList<>();
        for (int value = first - 2; value <= last + 2; value++) values.add(value);
        for (int value : FAR) values.add(value);
        return values.stream().mapToInt(Integer::intValue).toArray();
    }

    private void sweep(boolean changes, String name, int[]... ranges) {
        int[] at = new int[ranges.length];
        int[] args = new int[ranges.length];
        boolean more = true;
        while (more) {
            if (calls > MAX_CALLS - 250) renew();
            for (int i = 0; i < args.length; i++) args[i] = ranges[i][at[i]];
            if (both(name, args) >= 0 && changes) {
                compare();
                calls = MAX_CALLS;
            }
            more = false;
            for (int i = 0; i < at.length && !more; i++) {
                at[i] = at[i] + 1 < ranges[i].length ? at[i] + 1 : 0;
                more = at[i] > 0;
            }
        }
        compare();
        calls = MAX_CALLS;
    }

    private void compare() {
        for (int what = 0; what <= 7; what++) both("count", what);
        for (int node = 0; node < own.count(0); node++) {
            int k = 0;
            while (both("rotation", node, k) >= 0) k++;
        }
        for (int directed = 0; directed < 2 * own.count(1); directed++) {
            both("edge", directed / 2, directed % 2);
            both("faceOf", directed);
        }
    }

    private void sweepAll() {
        renew();
        int directed = 2 * own.count(1);
        int[] nodes = around(0, own.count(0) - 1);
        int[] edges = around(0, directed / 2 - 1);
        int[] faces = around(0, own.count(3) - 1);
        sweep(true, "setNodes", around(2, 9));
        sweep(true, "addInFace", nodes, nodes, faces);
        sweep(true, "removeEdge", edges);
        sweep(true, "setOuter", faces);
        sweep(true, "mirror");
        sweep(true, "undo");
        sweep(true, "load");
        sweep(true, "clearText");
        sweep(true, "swap", nodes, edges, edges);
        if (directed <= 20) sweep(true, "addEdge", nodes, nodes, edges, edges);
        sweep(false, "rotation", nodes, around(0, 8));
        sweep(false, "edge", edges, around(0, 1));
        sweep(false, "count", around(0, 7));
        sweep(false, "appendCharacter", new int[] {Integer.MIN_VALUE, -2, -1, 256, 257, Integer.MAX_VALUE});
        sweep(false, "face", faces, around(0, 3));
        sweep(false, "walk", faces, around(0, directed));
        sweep(false, "faceOf", around(0, directed - 1));
        sweep(false, "commonFace", nodes, nodes);
        sweep(false, "insertionCost", nodes, nodes);
        sweep(false, "crossed", nodes, nodes, around(0, 2));
        sweep(false, "depth", nodes);
        sweep(false, "position", nodes, around(0, 1), new int[] {Integer.MIN_VALUE, -1, 0, 1, 49, 50, 51, Integer.MAX_VALUE});
        sweep(false, "crossings", around(0, 50));
        sweep(false, "extent", around(0, 50));
        sweep(false, "canAdd", nodes, nodes);
    }

    public static void main(String[] args) {
        for (String state : STATES) new SweepTest(state).sweepAll();
        System.out.println("all arguments are answered as due, in " + total + " calls");
    }
}

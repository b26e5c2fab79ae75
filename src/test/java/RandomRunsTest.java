import java.lang.reflect.Method;
import java.util.ArrayList;
import java.util.Arrays;
import java.util.List;
import java.util.Random;

/** Runs of calls, drawn with fixed seeds, whose answers must be those of ReferenceDrawing. */
public final class RandomRunsTest {
    private static final int CALLS = 512;

    private final Random random;
    private final PlainDrawing own = new PlainDrawing();
    private final ReferenceDrawing reference = new ReferenceDrawing();
    private final List<String> log = new ArrayList<>();
    private int calls = 0;

    private RandomRunsTest(long seed) {
        random = new Random(seed);
    }

    private boolean isOpen() {
        return calls < CALLS;
    }

    private int call(String name, int... args) {
        calls++;
        try {
            Class<?>[] types = new Class<?>[args.length];
            Arrays.fill(types, int.class);
            Object[] boxed = new Object[args.length];
            for (int i = 0; i < args.length; i++) boxed[i] = args[i];
            Method mine = PlainDrawing.class.getMethod(name, types);
            Method due = ReferenceDrawing.class.getDeclaredMethod(name, types);
            int got = (Integer) mine.invoke(own, boxed);
            int want = (Integer) due.invoke(reference, boxed);
            log.add(name + Arrays.toString(args) + " = " + got);
            if (got != want) fail("due is " + want);
            return got;
        } catch (ReflectiveOperationException problem) {
            log.add(name + Arrays.toString(args));
            fail(problem + " by " + problem.getCause());
            return 0;
        }
    }

    private void fail(String why) {
        for (String line : log) System.out.println(line);
        System.out.println(why);
        System.exit(1);
    }

    /** Mostly a number from -1 to the limit, now and then one far outside. */
    private int any(int limit) {
        int dice = random.nextInt(200);
        if (dice == 0) return Integer.MIN_VALUE;
        if (dice == 1) return Integer.MAX_VALUE;
        if (dice == 2) return random.nextInt();
        if (dice < 12) return random.nextInt(limit + 2) - 1;
        return random.nextInt(Math.max(limit, 1));
    }

    private int anyNode() { return any(own.count(0)); }
    private int anyEdge() { return any(own.count(1)); }
    private int anyFace() { return any(own.count(3)); }

    private int anyEdgeOf(int node) {
        int degree = 0;
        while (own.rotation(node, degree) >= 0) degree++;
        return degree == 0 || random.nextInt(4) == 0 ? any(3) - 1 : own.rotation(node, random.nextInt(degree));
    }

    private void addSomeEdge() {
        int a = anyNode();
        int b = anyNode();
        call("addEdge", a, b, anyEdgeOf(a), anyEdgeOf(b));
    }

    private void addInSomeFace() {
        int face = anyFace();
        int length = own.face(face, 0);
        if (length < 2 || random.nextInt(10) == 0) {
            call("addInFace", anyNode(), anyNode(), face);
            return;
        }
        int d = own.walk(face, random.nextInt(length));
        int e = own.walk(face, random.nextInt(length));
        call("addInFace", own.edge(d / 2, d % 2), own.edge(e / 2, e % 2), face);
    }

    private void write(String text) {
        for (int i = 0; i < text.length() && isOpen(); i++) call("appendCharacter", text.charAt(i));
    }

    private void spoilAndLoad(String text) {
        StringBuilder spoiled = new StringBuilder(text);
        for (int k = random.nextInt(4); k > 0 && spoiled.length() > 0; k--) {
            int at = random.nextInt(spoiled.length());
            String signs = " :;0123456789/x";
            char sign = signs.charAt(random.nextInt(signs.length()));
            int how = random.nextInt(4);
            if (how == 0) spoiled.setCharAt(at, sign);
            else if (how == 1) spoiled.insert(at, sign);
            else if (how == 2) spoiled.deleteCharAt(at);
            else spoiled.insert(at, ' ');
        }
        write(spoiled.toString());
        call("load");
        if (random.nextInt(4) != 0) call("clearText");
    }

    /** The text of a graph; every second one has a forbidden graph with longer edges inside. */
    private String someText(int nodes, int edges) {
        boolean[][] used = new boolean[9][9];
        List<int[]> list = new ArrayList<>();
        if (random.nextBoolean()) addForbidden(nodes, used, list);
        for (int tries = 0; tries < 200 && list.size() < edges; tries++) {
            put(random.nextInt(nodes), random.nextInt(nodes), used, list);
        }
        java.util.Collections.shuffle(list, random);
        StringBuilder text = new StringBuilder().append(nodes).append(':');
        for (int[] e : list) text.append(e[0]).append(e[1]).append(';');
        return text.toString();
    }

    private void addForbidden(int nodes, boolean[][] used, List<int[]> list) {
        List<Integer> names = new ArrayList<>();
        for (int i = 0; i < nodes; i++) names.add(i);
        java.util.Collections.shuffle(names, random);
        boolean five = random.nextBoolean();
        int size = five ? 5 : 6;
        if (nodes < size) return;
        int spare = size;
        for (int a = 0; a < size; a++) {
            for (int b = a + 1; b < size; b++) {
                if (!five && a % 2 == b % 2) continue;
                int from = names.get(a);
                if (spare < nodes && random.nextInt(4) == 0) {
                    put(from, names.get(spare), used, list);
                    from = names.get(spare++);
                }
                if (random.nextInt(30) != 0) put(from, names.get(b), used, list);
            }
        }
    }

    private static void put(int a, int b, boolean[][] used, List<int[]> list) {
        if (a == b || used[a][b] || list.size() == 20) return;
        used[a][b] = true;
        used[b][a] = true;
        list.add(new int[] {a, b});
    }

    private void change() {
        switch (random.nextInt(20)) {
            case 0: call("setNodes", random.nextInt(3) == 0 ? any(11) : 2 + random.nextInt(8)); break;
            case 1: call("mirror"); break;
            case 2: case 3: call("removeEdge", anyEdge()); break;
            case 4: case 5: {
                int node = anyNode();
                call("swap", node, anyEdgeOf(node), anyEdgeOf(node));
                break;
            }
            case 6: call("setOuter", anyFace()); break;
            case 7: call("undo"); break;
            case 8: case 9: case 10: case 11: case 12: addInSomeFace(); break;
            default: addSomeEdge();
        }
    }

    private void askCheap() {
        switch (random.nextInt(16)) {
            case 0: call("rotation", anyNode(), any(8)); break;
            case 1: call("edge", anyEdge(), any(2)); break;
            case 2: case 3: call("count", any(8)); break;
            case 4: case 5: call("face", anyFace(), any(4)); break;
            case 6: call("walk", anyFace(), any(8)); break;
            case 7: call("faceOf", any(2 * own.count(1))); break;
            case 8: call("commonFace", anyNode(), anyNode()); break;
            case 9: call("insertionCost", anyNode(), anyNode()); break;
            case 10: call("crossed", anyNode(), anyNode(), any(4)); break;
            case 11: case 12: call("depth", anyNode()); break;
            case 13: call("position", anyNode(), any(2), any(51)); break;
            case 14: call("crossings", any(51)); break;
            default: call("extent", any(51));
        }
    }

    private void askPlanarity() {
        call("isPlanar");
        call("canAdd", anyNode(), anyNode());
        call("guiltyEdges");
        call("obstruction");
        call("branching");
    }

    private void askAll() {
        for (int what = 0; what <= 8; what++) call("count", what);
        for (int node = 0; node < own.count(0); node++) {
            for (int k = 0; k < 8; k++) call("rotation", node, k);
            call("depth", node);
        }
        for (int e = 0; e < own.count(1); e++) {
            call("edge", e, 0);
            call("edge", e, 1);
            call("faceOf", 2 * e);
            call("faceOf", 2 * e + 1);
        }
        call("extent", random.nextInt(51));
        call("crossings", random.nextInt(51));
    }

    private void runMixed() {
        call("setNodes", 2 + random.nextInt(8));
        while (isOpen()) {
            change();
            for (int k = random.nextInt(4); k > 0; k--) askCheap();
            if (random.nextInt(40) == 0) askAll();
            if (random.nextInt(100) == 0) askPlanarity();
        }
    }

    /** Stays plain, grows to many faces, and then asks for all best ways. */
    private void runPlain() {
        int nodes = 5 + random.nextInt(5);
        call("setNodes", nodes);
        for (int node = 1; node < nodes; node++) {
            int other = random.nextInt(node);
            call("addEdge", other, node, own.rotation(other, 0) < 0 ? -1 : own.rotation(other, 0), -1);
        }
        for (int tries = random.nextInt(60); tries > 0; tries--) addInSomeFace();
        for (int a = 0; a < nodes; a++) {
            for (int b = 0; b < nodes; b++) {
                int cost = call("insertionCost", a, b);
                for (int k = 0; k <= cost; k++) call("crossed", a, b, k);
            }
        }
        call("setOuter", anyFace());
        askAll();
        for (int tries = 0; tries < 30; tries++) askCheap();
        askPlanarity();
    }

    private void runTexts() {
        while (isOpen()) {
            spoilAndLoad(someText(2 + random.nextInt(8), random.nextInt(24)));
            if (random.nextInt(3) == 0) askAll();
            if (random.nextInt(5) == 0) call("undo");
            if (random.nextInt(9) == 0) write("9: 01;" + " ".repeat(100));
        }
    }

    private void runGraphs() {
        for (int round = 0; round < 5; round++) {
            write(someText(5 + random.nextInt(5), 8 + random.nextInt(13)));
            call("load");
            askPlanarity();
            for (int k = 0; k < 4; k++) call("canAdd", anyNode(), anyNode());
        }
    }

    public static void main(String[] args) {
        int scale = args.length > 0 ? Integer.parseInt(args[0]) : 1;
        for (int seed = 0; seed < 300 * scale; seed++) new RandomRunsTest(seed).runMixed();
        for (int seed = 0; seed < 250 * scale; seed++) new RandomRunsTest(1_000_000 + seed).runPlain();
        for (int seed = 0; seed < 150 * scale; seed++) new RandomRunsTest(2_000_000 + seed).runTexts();
        for (int seed = 0; seed < 120 * scale; seed++) new RandomRunsTest(3_000_000 + seed).runGraphs();
        System.out.println("all random runs are as due");
    }
}

import java.util.Arrays;

/** A workbench for drawings of graphs without crossings. */
public final class PlainDrawing {
    public static final int INVALID_ARGUMENT = -1;
    public static final int ILLEGAL_STATE = -2;
    public static final int CAPACITY_EXCEEDED = -3;
    public static final int NONE = -9;

    private static final int MIN_NODES = 2;
    private static final int MAX_NODES = 9;
    private static final int FIRST_NODES = 4;
    private static final int MAX_EDGES = 20;
    private static final int MAX_DIRECTED = 2 * MAX_EDGES;
    private static final int MAX_DEGREE = MAX_NODES - 1;
    private static final int MAX_TEXT = 100;
    private static final int MAX_CHARACTER = 255;
    private static final int MAX_SAVED = 6;
    private static final int MAX_ROUNDS = 50;
    private static final int LOAD_ERROR = -10;

    private final Graph graph;
    private final Graph draft;
    private final Faces faces;
    private final History history;
    private final Text text;
    private final PlanarityTest planarity;
    private final Way way;
    private final Layout layout;
    /** For each node the set of its neighbours, as a planarity test wants them. */
    private final int[] links;

    public PlainDrawing() {
        graph = new Graph();
        draft = new Graph();
        faces = new Faces();
        history = new History();
        text = new Text();
        planarity = new PlanarityTest();
        way = new Way();
        layout = new Layout();
        links = new int[MAX_NODES];
    }

    // ---- nodes, edges and rotations

    public int setNodes(int nodes) {
        if (nodes < MIN_NODES || nodes > MAX_NODES) {
            return INVALID_ARGUMENT;
        }
        int previous = graph.nodes;
        history.save(graph);
        graph.makeEmpty(nodes);
        settle();
        return previous;
    }

    public int addEdge(int a, int b, int behindA, int behindB) {
        if (!areTwoNodes(a, b) || !mayStandBehind(a, behindA) || !mayStandBehind(b, behindB)) {
            return INVALID_ARGUMENT;
        }
        if (graph.areJoined(a, b)) {
            return ILLEGAL_STATE;
        }
        // slotOf answers -1 for the edge -1, so that the new edge becomes the first one
        return join(a, b, graph.slotOf(a, behindA) + 1, graph.slotOf(b, behindB) + 1);
    }

    public int addInFace(int a, int b, int face) {
        if (!areTwoNodes(a, b) || !faces.exists(face)) {
            return INVALID_ARGUMENT;
        }
        if (graph.areJoined(a, b) || !faces.holds(face, a) || !faces.holds(face, b)) {
            return ILLEGAL_STATE;
        }
        int slotA = graph.slotOf(a, faces.firstEdgeLeaving(graph, face, a));
        int slotB = graph.slotOf(b, faces.firstEdgeLeaving(graph, face, b));
        return join(a, b, slotA, slotB);
    }

    public int removeEdge(int edge) {
        if (!graph.hasEdge(edge)) {
            return INVALID_ARGUMENT;
        }
        history.save(graph);
        graph.removeAt(edge);
        settle();
        return graph.edges;
    }

    public int swap(int node, int first, int second) {
        if (!graph.hasNode(node) || !graph.isEnd(first, node) || !graph.isEnd(second, node)) {
            return INVALID_ARGUMENT;
        }
        history.save(graph);
        graph.exchange(node, first, second);
        settle();
        return faces.genus == 0 ? 1 : 0;
    }

    public int mirror() {
        history.save(graph);
        graph.reverseAll();
        settle();
        return faces.number;
    }

    public int rotation(int node, int k) {
        if (!graph.hasNode(node) || k < 0) {
            return INVALID_ARGUMENT;
        }
        return k < graph.degree[node] ? graph.edgeAt(node, k) : NONE;
    }

    public int edge(int edge, int end) {
        if (!graph.hasEdge(edge) || end < 0 || end > 1) {
            return INVALID_ARGUMENT;
        }
        return end == 0 ? graph.low[edge] : graph.high[edge];
    }

    public int count(int what) {
        switch (what) {
            case 0:
                return graph.nodes;
            case 1:
                return graph.edges;
            case 2:
                return faces.components;
            case 3:
                return faces.number;
            case 4:
                return faces.genus;
            case 5:
                return graph.outer;
            case 6:
                return text.length;
            case 7:
                return history.saved;
            default:
                return INVALID_ARGUMENT;
        }
    }

    // ---- text

    public int appendCharacter(int character) {
        if (character < 0 || character > MAX_CHARACTER) {
            return INVALID_ARGUMENT;
        }
        if (text.length >= MAX_TEXT) {
            return CAPACITY_EXCEEDED;
        }
        text.add(character);
        return text.length;
    }

    public int clearText() {
        int previous = text.length;
        text.length = 0;
        return previous;
    }

    public int load() {
        int error = text.read(draft);
        if (error >= 0) {
            return LOAD_ERROR - error;
        }
        history.save(graph);
        graph.copyFrom(draft);
        text.length = 0;
        settle();
        return graph.edges;
    }

    // ---- faces

    public int face(int face, int what) {
        if (!faces.exists(face)) {
            return INVALID_ARGUMENT;
        }
        switch (what) {
            case 0:
                return faces.length[face];
            case 1:
                return Integer.bitCount(faces.nodeSet[face]);
            case 2:
                return faces.first[face];
            case 3:
                return faces.countNeighbours(graph, face);
            default:
                return INVALID_ARGUMENT;
        }
    }

    public int walk(int face, int k) {
        if (!faces.exists(face) || k < 0) {
            return INVALID_ARGUMENT;
        }
        return k < faces.length[face] ? faces.directedAt(face, k) : NONE;
    }

    public int faceOf(int directed) {
        return graph.hasDirected(directed) ? faces.owner[directed] : INVALID_ARGUMENT;
    }

    public int commonFace(int a, int b) {
        if (!areTwoNodes(a, b)) {
            return INVALID_ARGUMENT;
        }
        for (int face = 0; face < faces.number; face++) {
            if (faces.holds(face, a) && faces.holds(face, b)) {
                return face;
            }
        }
        return NONE;
    }

    // ---- graphs

    public int isPlanar() {
        graph.fillLinks(links);
        return planarity.accepts(links) ? 1 : 0;
    }

    public int canAdd(int a, int b) {
        if (!areTwoNodes(a, b)) {
            return INVALID_ARGUMENT;
        }
        if (graph.areJoined(a, b)) {
            return ILLEGAL_STATE;
        }
        graph.fillLinks(links);
        toggleLink(links, a, b);
        return planarity.accepts(links) ? 1 : 0;
    }

    public int obstruction() {
        return findObstruction();
    }

    public int branching() {
        int rest = findObstruction();
        int nodes = 0;
        for (int node = 0; node < graph.nodes; node++) {
            if (countEdgesAt(node, rest) >= 3) {
                nodes |= bit(node);
            }
        }
        return nodes;
    }

    public int guiltyEdges() {
        graph.fillLinks(links);
        if (planarity.accepts(links)) {
            return NONE;
        }
        int guilty = 0;
        for (int edge = 0; edge < graph.edges; edge++) {
            toggleLink(links, graph.low[edge], graph.high[edge]);
            if (planarity.accepts(links)) {
                guilty++;
            }
            toggleLink(links, graph.low[edge], graph.high[edge]);
        }
        return guilty;
    }

    // ---- insertions

    public int insertionCost(int a, int b) {
        if (!areTwoNodes(a, b)) {
            return INVALID_ARGUMENT;
        }
        if (!canInsert(a, b)) {
            return ILLEGAL_STATE;
        }
        way.find(graph, faces, a, b);
        return way.cost;
    }

    public int crossed(int a, int b, int k) {
        if (!areTwoNodes(a, b) || k < 0) {
            return INVALID_ARGUMENT;
        }
        if (!canInsert(a, b)) {
            return ILLEGAL_STATE;
        }
        way.find(graph, faces, a, b);
        return k < way.cost ? way.crossedEdges[k] : NONE;
    }

    // ---- depths and positions

    public int setOuter(int face) {
        if (!faces.exists(face)) {
            return INVALID_ARGUMENT;
        }
        int previous = graph.outer;
        history.save(graph);
        graph.outer = face;
        return previous;
    }

    public int depth(int node) {
        if (!graph.hasNode(node)) {
            return INVALID_ARGUMENT;
        }
        int reached = faces.exists(graph.outer) ? faces.nodeSet[graph.outer] : 0;
        for (int level = 0; level < MAX_NODES; level++) {
            if (contains(reached, node)) {
                return level;
            }
            reached = faces.widen(reached);
        }
        return NONE;
    }

    public int position(int node, int axis, int rounds) {
        if (!graph.hasNode(node) || axis < 0 || axis > 1 || !isRounds(rounds)) {
            return INVALID_ARGUMENT;
        }
        if (graph.edges == 0) {
            return ILLEGAL_STATE;
        }
        layout.arrange(graph, faces, rounds);
        return bitsOf(axis == 0 ? layout.x[node] : layout.y[node]);
    }

    public int crossings(int rounds) {
        if (!isRounds(rounds)) {
            return INVALID_ARGUMENT;
        }
        if (graph.edges == 0) {
            return ILLEGAL_STATE;
        }
        layout.arrange(graph, faces, rounds);
        return layout.countCrossings(graph);
    }

    public int extent(int rounds) {
        if (!isRounds(rounds)) {
            return INVALID_ARGUMENT;
        }
        if (graph.edges == 0) {
            return ILLEGAL_STATE;
        }
        layout.arrange(graph, faces, rounds);
        return bitsOf(layout.addLengths(graph));
    }

    public int undo() {
        if (history.saved == 0) {
            return ILLEGAL_STATE;
        }
        history.restore(graph);
        faces.trace(graph);
        return history.saved;
    }

    // ---- helpers of the calls

    private boolean areTwoNodes(int a, int b) {
        return graph.hasNode(a) && graph.hasNode(b) && a != b;
    }

    private boolean mayStandBehind(int node, int edge) {
        return edge == -1 || graph.isEnd(edge, node);
    }

    private boolean canInsert(int a, int b) {
        return faces.genus == 0 && !graph.areJoined(a, b);
    }

    private static boolean isRounds(int rounds) {
        return rounds >= 0 && rounds <= MAX_ROUNDS;
    }

    private int join(int a, int b, int slotA, int slotB) {
        if (graph.edges >= MAX_EDGES) {
            return CAPACITY_EXCEEDED;
        }
        history.save(graph);
        int edge = graph.connect(a, b, slotA, slotB);
        settle();
        return edge;
    }

    /** After a change of the drawing the faces have other numbers, so the outer one is 0 again. */
    private void settle() {
        graph.outer = 0;
        faces.trace(graph);
    }

    private int findObstruction() {
        graph.fillLinks(links);
        if (planarity.accepts(links)) {
            return 0;
        }
        int left = 0;
        for (int edge = 0; edge < graph.edges; edge++) {
            toggleLink(links, graph.low[edge], graph.high[edge]);
            if (planarity.accepts(links)) {
                toggleLink(links, graph.low[edge], graph.high[edge]);
                left |= bit(edge);
            }
        }
        return left;
    }

    private int countEdgesAt(int node, int edgeSet) {
        int found = 0;
        for (int slot = 0; slot < graph.degree[node]; slot++) {
            if (contains(edgeSet, graph.edgeAt(node, slot))) {
                found++;
            }
        }
        return found;
    }

    // ---- sets as bits, and floats as bits

    private static int bit(int member) {
        return 1 << member;
    }

    private static boolean contains(int set, int member) {
        return (set >> member & 1) != 0;
    }

    /** The smallest member of a set of nodes, or -1. */
    private static int smallestOf(int set) {
        for (int member = 0; member < MAX_NODES; member++) {
            if (contains(set, member)) {
                return member;
            }
        }
        return -1;
    }

    private static void toggleLink(int[] near, int a, int b) {
        near[a] ^= bit(b);
        near[b] ^= bit(a);
    }

    /** The union of the neighbours of a set of nodes. */
    private static int neighboursOf(int set, int[] near) {
        int found = 0;
        for (int node = 0; node < MAX_NODES; node++) {
            if (contains(set, node)) {
                found |= near[node];
            }
        }
        return found;
    }

    /** All nodes that are connected with a node by ways through allowed nodes. */
    private static int spread(int node, int allowed, int[] near) {
        int found = bit(node);
        for (int round = 0; round < MAX_NODES; round++) {
            int wider = found | neighboursOf(found, near) & allowed;
            if (wider == found) {
                return found;
            }
            found = wider;
        }
        return found;
    }

    /**
     * What Float.floatToIntBits answers, which the rules leave out, for the values that occur:
     * all coordinates and sums are 0 or positive and far below 2^23.
     */
    private static int bitsOf(float value) {
        if (!(value > 0f)) {
            return 0;
        }
        float scaled = value;
        int exponent = 150;
        while (scaled < 8388608f && exponent > 1) {
            scaled = scaled * 2f;
            exponent--;
        }
        int mantissa = (int) scaled;
        return mantissa < 8388608 ? mantissa : (exponent << 23) + (mantissa - 8388608);
    }

    /** Nodes, edges, rotations and the outer face: just what undo() has to bring back. */
    private static final class Graph {
        int nodes;
        int edges;
        int outer;
        final int[] low;
        final int[] high;
        final int[] degree;
        /** The rotations, MAX_DEGREE places for each node. */
        final int[] turns;

        Graph() {
            nodes = FIRST_NODES;
            low = new int[MAX_EDGES];
            high = new int[MAX_EDGES];
            degree = new int[MAX_NODES];
            turns = new int[MAX_NODES * MAX_DEGREE];
        }

        void makeEmpty(int newNodes) {
            nodes = newNodes;
            edges = 0;
            Arrays.fill(degree, 0);
        }

        void copyFrom(Graph other) {
            nodes = other.nodes;
            edges = other.edges;
            outer = other.outer;
            System.arraycopy(other.low, 0, low, 0, MAX_EDGES);
            System.arraycopy(other.high, 0, high, 0, MAX_EDGES);
            System.arraycopy(other.degree, 0, degree, 0, MAX_NODES);
            System.arraycopy(other.turns, 0, turns, 0, MAX_NODES * MAX_DEGREE);
        }

        boolean hasNode(int node) {
            return node >= 0 && node < nodes;
        }

        boolean hasEdge(int edge) {
            return edge >= 0 && edge < edges;
        }

        boolean hasDirected(int directed) {
            return directed >= 0 && directed < 2 * edges;
        }

        boolean isEnd(int edge, int node) {
            return hasEdge(edge) && (low[edge] == node || high[edge] == node);
        }

        boolean areJoined(int a, int b) {
            for (int edge = 0; edge < edges; edge++) {
                if (low[edge] == Math.min(a, b) && high[edge] == Math.max(a, b)) {
                    return true;
                }
            }
            return false;
        }

        int edgeAt(int node, int slot) {
            return turns[node * MAX_DEGREE + slot];
        }

        /** The index of an edge in the rotation of a node, or -1. */
        int slotOf(int node, int edge) {
            for (int slot = 0; slot < degree[node]; slot++) {
                if (edgeAt(node, slot) == edge) {
                    return slot;
                }
            }
            return -1;
        }

        /** Adds an edge that nobody has refused: there is room, and the nodes are not connected. */
        int connect(int a, int b, int slotA, int slotB) {
            int edge = edges;
            low[edge] = Math.min(a, b);
            high[edge] = Math.max(a, b);
            edges++;
            openSlot(a, slotA, edge);
            openSlot(b, slotB, edge);
            return edge;
        }

        private void openSlot(int node, int slot, int edge) {
            if (slot < 0 || slot > degree[node] || degree[node] >= MAX_DEGREE) {
                return;
            }
            int start = node * MAX_DEGREE;
            for (int k = degree[node]; k > slot; k--) {
                turns[start + k] = turns[start + k - 1];
            }
            turns[start + slot] = edge;
            degree[node]++;
        }

        void removeAt(int edge) {
            for (int node = 0; node < nodes; node++) {
                closeSlots(node, edge);
            }
            edges--;
            for (int e = edge; e < edges; e++) {
                low[e] = low[e + 1];
                high[e] = high[e + 1];
            }
        }

        private void closeSlots(int node, int edge) {
            int start = node * MAX_DEGREE;
            int kept = 0;
            for (int slot = 0; slot < degree[node]; slot++) {
                int old = turns[start + slot];
                if (old != edge) {
                    turns[start + kept] = old > edge ? old - 1 : old;
                    kept++;
                }
            }
            degree[node] = kept;
        }

        void exchange(int node, int first, int second) {
            int slotOfFirst = slotOf(node, first);
            int slotOfSecond = slotOf(node, second);
            if (slotOfFirst >= 0 && slotOfSecond >= 0) {
                turns[node * MAX_DEGREE + slotOfFirst] = second;
                turns[node * MAX_DEGREE + slotOfSecond] = first;
            }
        }

        void reverseAll() {
            for (int node = 0; node < nodes; node++) {
                int left = node * MAX_DEGREE;
                int right = left + degree[node] - 1;
                for (; left < right; left++, right--) {
                    int edge = turns[left];
                    turns[left] = turns[right];
                    turns[right] = edge;
                }
            }
        }

        /** The node that a directed edge leaves. */
        int tailOf(int directed) {
            return directed % 2 == 0 ? low[directed / 2] : high[directed / 2];
        }

        /** The directed edge that comes behind another one in its face. */
        int following(int directed) {
            int node = tailOf(directed ^ 1);
            int slot = slotOf(node, directed / 2) + 1;
            int edge = edgeAt(node, slot < degree[node] ? slot : 0);
            return low[edge] == node ? 2 * edge : 2 * edge + 1;
        }

        void fillLinks(int[] near) {
            Arrays.fill(near, 0);
            for (int edge = 0; edge < edges; edge++) {
                near[low[edge]] |= bit(high[edge]);
                near[high[edge]] |= bit(low[edge]);
            }
        }
    }

    /** What follows from the rotations; it is worked out once after each change. */
    private static final class Faces {
        int number;
        int components;
        int genus;
        /** By directed edges: the one behind it, and its face. */
        final int[] next;
        final int[] owner;
        /** By faces: the smallest directed edge, the length, and the set of the nodes. */
        final int[] first;
        final int[] length;
        final int[] nodeSet;
        /** By nodes: the set of the neighbours. */
        final int[] near;

        /** For a new graph, whose nodes have no edges. */
        Faces() {
            components = FIRST_NODES;
            next = new int[MAX_DIRECTED];
            owner = new int[MAX_DIRECTED];
            first = new int[MAX_DIRECTED];
            length = new int[MAX_DIRECTED];
            nodeSet = new int[MAX_DIRECTED];
            near = new int[MAX_NODES];
        }

        void trace(Graph graph) {
            number = 0;
            Arrays.fill(owner, -1);
            for (int directed = 0; directed < 2 * graph.edges; directed++) {
                next[directed] = graph.following(directed);
            }
            for (int directed = 0; directed < 2 * graph.edges; directed++) {
                if (owner[directed] < 0) {
                    walkFrom(graph, directed);
                }
            }
            graph.fillLinks(near);
            countComponents(graph);
        }

        private void walkFrom(Graph graph, int start) {
            first[number] = start;
            length[number] = 0;
            nodeSet[number] = 0;
            int directed = start;
            for (int step = 0; step < MAX_DIRECTED && owner[directed] < 0; step++) {
                owner[directed] = number;
                length[number]++;
                nodeSet[number] |= bit(graph.tailOf(directed));
                directed = next[directed];
            }
            number++;
        }

        /** Summed over the components with edges, a genus needs no faces by components. */
        private void countComponents(Graph graph) {
            components = 0;
            int twice = graph.edges - number;
            int seen = 0;
            for (int node = 0; node < graph.nodes; node++) {
                if (!contains(seen, node)) {
                    int part = spread(node, -1, near);
                    seen |= part;
                    components++;
                    twice += near[node] == 0 ? 0 : 2 - Integer.bitCount(part);
                }
            }
            genus = twice / 2;
        }

        boolean exists(int face) {
            return face >= 0 && face < number;
        }

        boolean holds(int face, int node) {
            return contains(nodeSet[face], node);
        }

        boolean areConnected(int a, int b) {
            return contains(spread(a, -1, near), b);
        }

        int directedAt(int face, int k) {
            int directed = first[face];
            for (int step = 0; step < k; step++) {
                directed = next[directed];
            }
            return directed;
        }

        int firstEdgeLeaving(Graph graph, int face, int node) {
            int directed = first[face];
            for (int step = 0; step < length[face] && graph.tailOf(directed) != node; step++) {
                directed = next[directed];
            }
            return directed / 2;
        }

        int countNeighbours(Graph graph, int face) {
            int found = 0;
            for (int directed = 0; directed < 2 * graph.edges; directed++) {
                if (owner[directed] == face && owner[directed ^ 1] != face) {
                    found |= bit(owner[directed ^ 1]);
                }
            }
            return Integer.bitCount(found);
        }

        /** A set of nodes, and all that are together on a face with one of them. */
        int widen(int nodes) {
            int found = nodes;
            for (int face = 0; face < number; face++) {
                if ((nodeSet[face] & nodes) != 0) {
                    found |= nodeSet[face];
                }
            }
            return found;
        }
    }

    /** The states before the last changes, the oldest one first. */
    private static final class History {
        int saved;
        private final Graph[] states;

        History() {
            states = new Graph[MAX_SAVED];
            for (int k = 0; k < MAX_SAVED; k++) {
                states[k] = new Graph();
            }
        }

        void save(Graph graph) {
            if (saved == MAX_SAVED) {
                dropOldest();
            }
            states[saved].copyFrom(graph);
            saved++;
        }

        /** The oldest state's object goes to the end to be used again. */
        private void dropOldest() {
            Graph oldest = states[0];
            for (int k = 1; k < MAX_SAVED; k++) {
                states[k - 1] = states[k];
            }
            saved--;
            states[saved] = oldest;
        }

        void restore(Graph graph) {
            saved--;
            graph.copyFrom(states[saved]);
        }
    }

    /** The text, and the reading of it as a graph. */
    private static final class Text {
        private static final int NODES = 0;
        private static final int COLON = 1;
        private static final int FIRST_END = 2;
        private static final int SECOND_END = 3;
        private static final int SEMICOLON = 4;

        int length;
        private final int[] characters;
        /** What must come next, and the first end of the edge that is being read. */
        private int due;
        private int from;

        Text() {
            characters = new int[MAX_TEXT];
        }

        void add(int character) {
            characters[length] = character;
            length++;
        }

        /** Reads the text into a graph, and answers the error position, or -1. */
        int read(Graph target) {
            due = NODES;
            for (int k = 0; k < length; k++) {
                if (characters[k] != ' ' && !take(characters[k], target)) {
                    return k;
                }
            }
            return due == FIRST_END ? -1 : length;
        }

        private boolean take(int character, Graph target) {
            int digit = character - '0';
            switch (due) {
                case NODES:
                    return takeNodes(digit, target);
                case COLON:
                    due = FIRST_END;
                    return character == ':';
                case FIRST_END:
                    from = digit;
                    due = SECOND_END;
                    return target.hasNode(digit) && target.edges < MAX_EDGES;
                case SECOND_END:
                    return takeSecondEnd(digit, target);
                default:
                    due = FIRST_END;
                    return character == ';';
            }
        }

        private boolean takeNodes(int digit, Graph target) {
            if (digit < MIN_NODES || digit > MAX_NODES) {
                return false;
            }
            target.makeEmpty(digit);
            due = COLON;
            return true;
        }

        private boolean takeSecondEnd(int digit, Graph target) {
            if (!target.hasNode(digit) || digit == from || target.areJoined(from, digit)) {
                return false;
            }
            target.connect(from, digit, target.degree[from], target.degree[digit]);
            due = SEMICOLON;
            return true;
        }
    }

    /**
     * Tests planarity by the way of Demoucron, Malgrange and Pertuiset: a block is sketched,
     * first a cycle of it, then path by path, each path into a ring (a face of the sketch)
     * that has all ends of the path's fragment.
     */
    private static final class PlanarityTest {
        /** A plain sketch of 9 nodes has at most 14 faces; a turn more finds nothing left. */
        private static final int MAX_RINGS = 15;
        /** K3,3 has 9 edges, K5 has 10. */
        private static final int SMALLEST_FORBIDDEN = 9;

        /** The edges that are still to be judged, and of these the ones in the sketch. */
        private final int[] rest;
        private final int[] sketch;
        private int placed;
        /** The rings as sequences of nodes, MAX_NODES places for each, and as sets. */
        private int rings;
        private final int[] ringNodes;
        private final int[] ringLength;
        private final int[] ringSet;
        private final int[] oldRing;
        private final int[] path;
        private int pathLength;
        private final int[] queue;
        private final int[] origin;
        /** The chosen fragment: its nodes outside the sketch, its ends in it, and a ring for it. */
        private int inside;
        private int ends;
        private int ring;
        private int choices;

        PlanarityTest() {
            rest = new int[MAX_NODES];
            sketch = new int[MAX_NODES];
            ringNodes = new int[MAX_RINGS * MAX_NODES];
            ringLength = new int[MAX_RINGS];
            ringSet = new int[MAX_RINGS];
            oldRing = new int[MAX_NODES];
            path = new int[MAX_NODES];
            queue = new int[MAX_NODES];
            origin = new int[MAX_NODES];
        }

        /** Each turn judges one block and takes it away, until nothing forbidden can be left. */
        boolean accepts(int[] near) {
            System.arraycopy(near, 0, rest, 0, MAX_NODES);
            for (int block = 0; block < MAX_NODES; block++) {
                reduce();
                if (countEdges() < SMALLEST_FORBIDDEN || !findCycle()) {
                    return true;
                }
                if (!sketchBlock()) {
                    return false;
                }
                for (int node = 0; node < MAX_NODES; node++) {
                    rest[node] &= ~sketch[node];
                }
            }
            return true;
        }

        /** Nodes with one or two edges never decide: the latter only lengthen an edge. */
        private void reduce() {
            for (int round = 0; round < MAX_NODES; round++) {
                boolean changed = false;
                for (int node = 0; node < MAX_NODES; node++) {
                    if (rest[node] != 0 && Integer.bitCount(rest[node]) <= 2) {
                        bridgeOver(node);
                        changed = true;
                    }
                }
                if (!changed) {
                    return;
                }
            }
        }

        private int countEdges() {
            int ended = 0;
            for (int node = 0; node < MAX_NODES; node++) {
                ended += Integer.bitCount(rest[node]);
            }
            return ended / 2;
        }

        private void bridgeOver(int node) {
            int around = rest[node];
            rest[node] = 0;
            for (int other = 0; other < MAX_NODES; other++) {
                if (contains(around, other)) {
                    rest[other] = rest[other] & ~bit(node) | around & ~bit(other);
                }
            }
        }

        /** Puts a cycle into the path; as each node has three edges or none, a walk finds one. */
        private boolean findCycle() {
            int node = smallestOf(neighboursOf(-1, rest));
            int seen = 0;
            int came = 0;
            pathLength = 0;
            for (int step = 0; step < MAX_NODES && node >= 0 && !contains(seen, node); step++) {
                path[step] = node;
                pathLength = step + 1;
                seen |= bit(node);
                int onward = smallestOf(rest[node] & ~came);
                came = bit(node);
                node = onward;
            }
            if (node < 0 || !contains(seen, node)) {
                return false;
            }
            cutPathBefore(node);
            return true;
        }

        private void cutPathBefore(int node) {
            int kept = 0;
            boolean reached = false;
            for (int k = 0; k < pathLength; k++) {
                reached = reached || path[k] == node;
                if (reached) {
                    path[kept] = path[k];
                    kept++;
                }
            }
            pathLength = kept;
        }

        /** Draws fragment by fragment until none is left; a fragment without a ring ends it. */
        private boolean sketchBlock() {
            startSketch();
            for (int filled = rings; filled < MAX_RINGS; filled++) {
                ends = 0;
                if (!weighEdges() || !weighParts()) {
                    return false;
                }
                if (Integer.bitCount(ends) < 2) {
                    return true;
                }
                findPath();
                splitRing();
                drawPath();
            }
            return true;
        }

        /** A cycle alone has two faces with the same nodes. */
        private void startSketch() {
            Arrays.fill(sketch, 0);
            placed = 0;
            drawPath();
            toggleLink(sketch, path[0], path[pathLength - 1]);
            rings = 2;
            for (int k = 0; k < rings; k++) {
                System.arraycopy(path, 0, ringNodes, k * MAX_NODES, pathLength);
                ringLength[k] = pathLength;
                ringSet[k] = placed;
            }
        }

        private void drawPath() {
            for (int k = 0; k < pathLength; k++) {
                placed |= bit(path[k]);
                if (k > 0) {
                    toggleLink(sketch, path[k - 1], path[k]);
                }
            }
        }

        /** Answers whether each edge between placed nodes has a ring. */
        private boolean weighEdges() {
            for (int a = 0; a < MAX_NODES; a++) {
                int open = contains(placed, a) ? rest[a] & placed & ~sketch[a] : 0;
                for (int b = a + 1; b < MAX_NODES; b++) {
                    if (contains(open, b) && !weigh(0, bit(a) | bit(b))) {
                        return false;
                    }
                }
            }
            return true;
        }

        /** The same for the parts outside; one with fewer than two ends belongs to other blocks. */
        private boolean weighParts() {
            int seen = placed;
            for (int node = 0; node < MAX_NODES; node++) {
                if (!contains(seen, node)) {
                    int part = spread(node, ~placed, rest);
                    int touched = neighboursOf(part, rest) & placed;
                    seen |= part;
                    if (Integer.bitCount(touched) >= 2 && !weigh(part, touched)) {
                        return false;
                    }
                }
            }
            return true;
        }

        /** Keeps the fragment with the fewest rings: one that has a single ring can't wait. */
        private boolean weigh(int part, int touched) {
            int fitting = 0;
            int last = 0;
            for (int k = 0; k < rings; k++) {
                if ((touched & ~ringSet[k]) == 0) {
                    fitting++;
                    last = k;
                }
            }
            if (ends == 0 || fitting < choices) {
                inside = part;
                ends = touched;
                ring = last;
                choices = fitting;
            }
            return fitting > 0;
        }

        /** Puts a path through the chosen fragment, from one end to another, into the path. */
        private void findPath() {
            int start = smallestOf(ends);
            int goals = ends & ~bit(start);
            if (inside == 0) {
                path[0] = start;
                path[1] = smallestOf(goals);
                pathLength = 2;
                return;
            }
            queue[0] = start;
            int waiting = 1;
            int seen = bit(start);
            for (int head = 0; head < waiting && head < MAX_NODES; head++) {
                int node = queue[head];
                if (node != start && (rest[node] & goals) != 0) {
                    tracePath(smallestOf(rest[node] & goals), node, start);
                    return;
                }
                for (int other = 0; other < MAX_NODES; other++) {
                    if (contains(rest[node] & inside & ~seen, other) && waiting < MAX_NODES) {
                        origin[other] = node;
                        queue[waiting] = other;
                        waiting++;
                        seen |= bit(other);
                    }
                }
            }
        }

        private void tracePath(int goal, int lastInside, int start) {
            path[0] = goal;
            int node = lastInside;
            int k = 1;
            for (; k < MAX_NODES - 1 && node != start; k++) {
                path[k] = node;
                node = origin[node];
            }
            path[k] = start;
            pathLength = k + 1;
        }

        /** The path cuts the ring in two: one stays in its place, the other one is a new ring. */
        private void splitRing() {
            int size = ringLength[ring];
            System.arraycopy(ringNodes, ring * MAX_NODES, oldRing, 0, size);
            int begin = path[0];
            int end = path[pathLength - 1];
            copyArc(ring, begin, end, size);
            for (int k = pathLength - 2; k > 0; k--) {
                extendRing(ring, path[k]);
            }
            copyArc(rings, end, begin, size);
            for (int k = 1; k < pathLength - 1; k++) {
                extendRing(rings, path[k]);
            }
            rings++;
        }

        private void copyArc(int target, int begin, int end, int size) {
            int at = 0;
            for (int k = 0; k < size; k++) {
                at = oldRing[k] == begin ? k : at;
            }
            ringLength[target] = 0;
            ringSet[target] = 0;
            for (int step = 0; step < size; step++) {
                int node = oldRing[at];
                extendRing(target, node);
                if (node == end) {
                    return;
                }
                at = at + 1 < size ? at + 1 : 0;
            }
        }

        private void extendRing(int target, int node) {
            if (ringLength[target] < MAX_NODES) {
                ringNodes[target * MAX_NODES + ringLength[target]] = node;
                ringLength[target]++;
                ringSet[target] |= bit(node);
            }
        }
    }

    /** The best way of a new edge through the faces of a plain drawing. */
    private static final class Way {
        int cost;
        final int[] crossedEdges;
        /** By faces: how many edges must be crossed from there, or -1. */
        private final int[] distance;

        Way() {
            crossedEdges = new int[MAX_DIRECTED];
            distance = new int[MAX_DIRECTED];
        }

        void find(Graph graph, Faces faces, int a, int b) {
            cost = 0;
            if (!faces.areConnected(a, b)) {
                return;
            }
            measure(graph, faces, b);
            int current = chooseStart(faces, a);
            for (int k = 0; k < cost; k++) {
                current = cross(graph, faces, current, k);
            }
        }

        private void measure(Graph graph, Faces faces, int goal) {
            for (int face = 0; face < faces.number; face++) {
                distance[face] = faces.holds(face, goal) ? 0 : -1;
            }
            for (int far = 0; far < faces.number; far++) {
                for (int directed = 0; directed < 2 * graph.edges; directed++) {
                    int there = faces.owner[directed ^ 1];
                    if (distance[faces.owner[directed]] == far && distance[there] < 0) {
                        distance[there] = far + 1;
                    }
                }
            }
        }

        /** Sets the cost, and answers the set of all faces from which it can be reached. */
        private int chooseStart(Faces faces, int node) {
            int best = 0;
            cost = MAX_DIRECTED;
            for (int face = 0; face < faces.number; face++) {
                if (faces.holds(face, node) && distance[face] >= 0 && distance[face] <= cost) {
                    best = distance[face] < cost ? bit(face) : best | bit(face);
                    cost = distance[face];
                }
            }
            return best;
        }

        /** Crosses the smallest edge that brings one of the current faces nearer to the goal. */
        private int cross(Graph graph, Faces faces, int current, int k) {
            for (int directed = 0; directed < 2 * graph.edges; directed++) {
                int there = faces.owner[directed ^ 1];
                if (contains(current, faces.owner[directed]) && distance[there] == cost - k - 1) {
                    crossedEdges[k] = directed / 2;
                    return bit(there);
                }
            }
            return current;
        }
    }

    /** The positions of the nodes. */
    private static final class Layout {
        final float[] x;
        final float[] y;

        Layout() {
            x = new float[MAX_NODES];
            y = new float[MAX_NODES];
        }

        void arrange(Graph graph, Faces faces, int rounds) {
            Arrays.fill(x, 0f);
            Arrays.fill(y, 0f);
            int fixed = faces.exists(graph.outer) ? pinOuterNodes(graph, faces) : 0;
            for (int round = 0; round < rounds; round++) {
                for (int node = 0; node < graph.nodes; node++) {
                    if (!contains(fixed, node) && graph.degree[node] > 0) {
                        relax(graph, node);
                    }
                }
            }
        }

        private int pinOuterNodes(Graph graph, Faces faces) {
            int fixed = 0;
            int k = 0;
            int directed = faces.first[graph.outer];
            for (int step = 0; step < faces.length[graph.outer]; step++) {
                int node = graph.tailOf(directed);
                if (!contains(fixed, node)) {
                    x[node] = (float) k;
                    y[node] = (float) (k * k);
                    fixed |= bit(node);
                    k++;
                }
                directed = faces.next[directed];
            }
            return fixed;
        }

        private void relax(Graph graph, int node) {
            float sumX = 0f;
            float sumY = 0f;
            int degree = graph.degree[node];
            for (int slot = 0; slot < degree; slot++) {
                int edge = graph.edgeAt(node, slot);
                int other = graph.low[edge] == node ? graph.high[edge] : graph.low[edge];
                sumX = sumX + x[other];
                sumY = sumY + y[other];
            }
            if (degree > 0) {
                x[node] = sumX / (float) degree;
                y[node] = sumY / (float) degree;
            }
        }

        int countCrossings(Graph graph) {
            int found = 0;
            for (int e = 0; e < graph.edges; e++) {
                for (int f = e + 1; f < graph.edges; f++) {
                    if (doCross(graph.low[e], graph.high[e], graph.low[f], graph.high[f])) {
                        found++;
                    }
                }
            }
            return found;
        }

        private boolean doCross(int p, int q, int r, int s) {
            if (p == r || p == s || q == r || q == s) {
                return false;
            }
            return areOpposite(turn(p, q, r), turn(p, q, s))
                && areOpposite(turn(r, s, p), turn(r, s, q));
        }

        private static boolean areOpposite(float a, float b) {
            return a > 0f && b < 0f || a < 0f && b > 0f;
        }

        private float turn(int p, int q, int r) {
            return (x[q] - x[p]) * (y[r] - y[p]) - (y[q] - y[p]) * (x[r] - x[p]);
        }

        float addLengths(Graph graph) {
            float sum = 0f;
            for (int edge = 0; edge < graph.edges; edge++) {
                float wide = distance(x[graph.low[edge]], x[graph.high[edge]]);
                float tall = distance(y[graph.low[edge]], y[graph.high[edge]]);
                sum = sum + (wide >= tall ? wide : tall);
            }
            return sum;
        }

        private static float distance(float a, float b) {
            float difference = a - b;
            return difference < 0f ? -difference : difference;
        }
    }
}

/** Each sentence under "Terms" that names a boundary: the last case on its one side, the first on the other. */
public final class TermsTest {
    /** Nodes 0 and 1, and between them the nodes 2 to 8 in a row: 20 edges, 13 faces, plain. */
    static final String LADDER = """
        setNodes(9) = 4
        addEdge(0, 2, -1, -1) = 0
        addEdge(0, 3, 0, -1) = 1
        addEdge(0, 4, 1, -1) = 2
        addEdge(0, 5, 2, -1) = 3
        addEdge(0, 6, 3, -1) = 4
        addEdge(0, 7, 4, -1) = 5
        addEdge(0, 8, 5, -1) = 6
        addEdge(1, 2, -1, 0) = 7
        addEdge(1, 3, -1, 1) = 8
        addEdge(1, 4, -1, 2) = 9
        addEdge(1, 5, -1, 3) = 10
        addEdge(1, 6, -1, 4) = 11
        addEdge(1, 7, -1, 5) = 12
        addEdge(1, 8, -1, 6) = 13
        addEdge(2, 3, 7, 1) = 14
        addEdge(3, 4, 8, 2) = 15
        addEdge(4, 5, 9, 3) = 16
        addEdge(5, 6, 10, 4) = 17
        addEdge(6, 7, 11, 5) = 18
        addEdge(7, 8, 12, 6) = 19
        """;
    /** 20 edges and only one face, which therefore is as long as a face can be. */
    static final String ONE_FACE = """
        write 9:35;08;45;23;28;02;15;01;13;12;06;27;68;05;34;38;37;58;48;16;
        load() = 20
        """;
    /** The triangle 0 1 2, in it the triangle 3 4 5, joined by 0 3 and 1 4; 6 hangs outside at 2, 7 inside at 5. */
    static final String CORRIDORS = """
        setNodes(9) = 4
        addEdge(2, 6, -1, -1) = 0
        addEdge(3, 4, -1, -1) = 1
        addEdge(0, 2, -1, -1) = 2
        addEdge(5, 7, -1, -1) = 3
        addEdge(0, 3, -1, -1) = 4
        addEdge(0, 1, -1, -1) = 5
        addEdge(1, 4, -1, 1) = 6
        addEdge(3, 5, 1, -1) = 7
        addEdge(1, 2, -1, 2) = 8
        addEdge(4, 5, -1, 3) = 9
        """;
    static final String TETRAHEDRON = """
        addEdge(0, 1, -1, -1) = 0
        addEdge(1, 2, 0, -1) = 1
        addEdge(2, 0, 1, 0) = 2
        addEdge(0, 3, -1, -1) = 3
        addInFace(3, 1, 0) = 4
        addInFace(3, 2, 2) = 5
        """;

    private static void nodes() {
        Script.run("There are N nodes, 2 to 9, numbered from 0 (at first 4)", """
            count(0) = 4
            rotation(3, 0) = NONE
            rotation(4, 0) = INVALID
            refused setNodes(1) = INVALID
            refused setNodes(10) = INVALID
            setNodes(2) = 4
            count(0) = 2
            refused setNodes(1) = INVALID
            setNodes(9) = 2
            count(0) = 9
            refused setNodes(10) = INVALID
            setNodes(3) = 9
            setNodes(8) = 3
            """);
        for (int n = 2; n <= 9; n++) nodeArguments(n, n - 1);
    }

    /** Node 0 and the last node are allowed, the numbers beside them are not, in every call that takes a node. */
    private static void nodeArguments(int n, int last) {
        Script.run("a node of " + n, """
            setNodes(%d) = 4
            refused addEdge(-1, %d, -1, -1) = INVALID
            refused addEdge(0, %d, -1, -1) = INVALID
            addEdge(0, %d, -1, -1) = 0
            setOuter(0) = 0
            """.formatted(n, last, n, last));
        String[] calls = {
            "addEdge(%d, %d, -1, -1)", "addInFace(%d, %d, 0)", "canAdd(%d, %d)", "insertionCost(%d, %d)", "crossed(%d, %d, 0)"
        };
        Script script = Script.run("a node of " + n, "setNodes(" + n + ") = 4", "addEdge(0, " + last + ", -1, -1) = 0");
        for (String call : calls) {
            script.go("refused " + call.formatted(0, last) + " = ILLEGAL");
            script.go("refused " + call.formatted(last, 0) + " = ILLEGAL");
            for (int outside : new int[] {-1, n, Integer.MIN_VALUE, Integer.MAX_VALUE}) {
                script.go("refused " + call.formatted(outside, last) + " = INVALID");
                script.go("refused " + call.formatted(0, outside) + " = INVALID");
            }
            script.go("refused " + call.formatted(last, last) + " = INVALID");
        }
        script.go("commonFace(0, " + last + ") = 0");
        script.go("commonFace(" + last + ", 0) = 0");
        for (int outside : new int[] {-1, n, Integer.MIN_VALUE, Integer.MAX_VALUE}) {
            script.go("commonFace(" + outside + ", 0) = INVALID");
            script.go("commonFace(" + last + ", " + outside + ") = INVALID");
            script.go("rotation(" + outside + ", 0) = INVALID");
            script.go("depth(" + outside + ") = INVALID");
            script.go("position(" + outside + ", 0, 0) = INVALID");
            script.go("refused swap(" + outside + ", 0, 0) = INVALID");
        }
        for (int node : new int[] {0, last}) {
            script.go("rotation(" + node + ", 0) = 0");
            script.go("depth(" + node + ") = 0");
            script.go("position(" + node + ", 0, 0) = bits " + (node == 0 ? 0 : 1));
            script.go("swap(" + node + ", 0, 0) = 1");
        }
    }

    private static void edges() {
        Script.run("at most 20 edges, numbered from 0 in the order in which they were added", LADDER, """
            count(1) = 20
            edge(0, 0) = 0
            edge(0, 1) = 2
            edge(19, 0) = 7
            edge(19, 1) = 8
            refused addEdge(0, 1, -1, -1) = FULL
            refused addInFace(0, 1, 0) = FULL
            removeEdge(19) = 19
            addInFace(0, 1, 0) = 19
            rotation(0, 0) = 19
            rotation(1, 0) = 19
            commonFace(7, 8) = 6
            refused addInFace(7, 8, 6) = FULL
            refused addEdge(7, 8, 12, 6) = FULL
            count(1) = 20
            """);
        edgeArguments(1, "addEdge(0, 1, -1, -1) = 0", 0, 1);
        edgeArguments(6, TETRAHEDRON, 2, 3);
        edgeArguments(20, LADDER, 7, 8);
        Script.run("no edges: no edge has a number", """
            refused removeEdge(0) = INVALID
            refused swap(0, 0, 0) = INVALID
            refused addEdge(0, 1, 0, -1) = INVALID
            refused addEdge(0, 1, -1, 0) = INVALID
            edge(0, 0) = INVALID
            faceOf(0) = INVALID
            face(0, 0) = INVALID
            walk(0, 0) = INVALID
            refused setOuter(0) = INVALID
            refused addInFace(0, 1, 0) = INVALID
            """);
    }

    /** The last edge joins low and high; its number is allowed, the next one is not. */
    private static void edgeArguments(int edges, String setup, int low, int high) {
        int last = edges - 1;
        Script script = Script.run("an edge of " + edges, setup);
        script.go("edge(" + last + ", 0) = " + low);
        script.go("edge(" + last + ", 1) = " + high);
        for (int outside : new int[] {-1, edges, Integer.MIN_VALUE, Integer.MAX_VALUE}) {
            script.go("edge(" + outside + ", 0) = INVALID");
            script.go("refused removeEdge(" + outside + ") = INVALID");
            script.go("refused swap(" + low + ", " + outside + ", " + last + ") = INVALID");
            script.go("refused swap(" + high + ", " + last + ", " + outside + ") = INVALID");
        }
        script.go("refused addEdge(" + low + ", " + high + ", " + last + ", " + last + ") = ILLEGAL");
        script.go("refused addEdge(" + low + ", " + high + ", -2, -1) = INVALID");
        script.go("refused addEdge(" + low + ", " + high + ", -1, -2) = INVALID");
        script.go("refused addEdge(" + low + ", " + high + ", " + edges + ", -1) = INVALID");
        script.go("refused addEdge(" + low + ", " + high + ", -1, " + edges + ") = INVALID");
        int directed = 2 * edges;
        script.go("walk(" + script.ask("faceOf(" + (directed - 1) + ")") + ", MAX) = NONE");
        for (int outside : new int[] {-1, directed, Integer.MIN_VALUE, Integer.MAX_VALUE}) {
            script.go("faceOf(" + outside + ") = INVALID");
        }
        script.go("removeEdge(" + last + ") = " + last);
        script.go("removeEdge(" + last + ") = INVALID");
    }

    private static void ends() {
        Script.run("An edge connects two different nodes; no two edges connect the same two nodes", """
            refused addEdge(1, 1, -1, -1) = INVALID
            addEdge(3, 1, -1, -1) = 0
            edge(0, 0) = 1
            edge(0, 1) = 3
            refused addEdge(3, 1, -1, -1) = ILLEGAL
            refused addEdge(1, 3, -1, -1) = ILLEGAL
            refused addEdge(1, 3, 0, 0) = ILLEGAL
            refused addInFace(1, 3, 0) = ILLEGAL
            refused addInFace(3, 1, 0) = ILLEGAL
            refused addEdge(1, 1, 0, 0) = INVALID
            refused addInFace(1, 1, 0) = INVALID
            removeEdge(0) = 0
            addEdge(1, 3, -1, -1) = 0
            """);
        Script.run("2 * e leads from the smaller end to the greater end, however the edge was added", """
            addEdge(3, 1, -1, -1) = 0
            walk(0, 0) = 0
            walk(0, 1) = 1
            # the walk leaves node 1 first, so it is fixed at (0, 0), and node 3 at (1, 1)
            position(1, 0, 0) = bits 0
            position(1, 1, 0) = bits 0
            position(3, 0, 0) = bits 1
            position(3, 1, 0) = bits 1
            """);
    }

    private static void rotations() {
        Script.run("a rotation is meant cyclically, so that the first edge follows the last one", """
            write 5:01;02;03;
            load() = 3
            # the edge 2, the last one of node 0, is followed by the edge 0 in the walk
            walk(0, 0) = 0
            walk(0, 5) = 5
            walk(0, 6) = NONE
            face(0, 0) = 6
            """);
        Script.run("but it has a first edge: behind the last one is not the first place, though the faces are the same", """
            write 5:01;02;03;
            load() = 3
            addEdge(0, 4, 2, -1) = 3
            rotation(0, 0) = 0
            rotation(0, 3) = 3
            walk(0, 5) = 5
            walk(0, 6) = 6
            walk(0, 7) = 7
            walk(0, 8) = NONE
            undo() = 1
            addEdge(0, 4, -1, -1) = 3
            rotation(0, 0) = 3
            rotation(0, 1) = 0
            rotation(0, 3) = 2
            walk(0, 5) = 5
            walk(0, 6) = 6
            walk(0, 7) = 7
            walk(0, 8) = NONE
            """);
        Script.run("the only edge of a node follows itself", """
            addEdge(0, 1, -1, -1) = 0
            walk(0, 0) = 0
            walk(0, 1) = 1
            walk(0, 2) = NONE
            face(0, 0) = 2
            face(0, 1) = 2
            face(0, 3) = 0
            """);
        Script.run("a rotation of eight edges is full", """
            write 9:01;02;03;04;05;06;07;08;
            load() = 8
            rotation(0, 0) = 0
            rotation(0, 7) = 7
            rotation(0, 8) = NONE
            walk(0, 15) = 15
            walk(0, 16) = NONE
            walk(0, 0) = 0
            mirror() = 1
            rotation(0, 0) = 7
            rotation(0, 7) = 0
            rotation(0, 8) = NONE
            walk(0, 0) = 0
            walk(0, 1) = 1
            walk(0, 2) = 14
            swap(0, 0, 7) = 1
            rotation(0, 0) = 0
            rotation(0, 7) = 7
            removeEdge(7) = 7
            addEdge(8, 0, -1, 0) = 7
            rotation(0, 0) = 0
            rotation(0, 1) = 7
            rotation(0, 7) = 1
            """);
    }

    /** Each walk comes back to its first directed edge; together the walks have each directed edge just once. */
    private static void walks() {
        // into node 3, whose last edge is 16, leads 33; behind it comes its first edge 0
        checkWalks("a walk of 40", 1, ONE_FACE, "count(3) = 1", "count(4) = 6", "face(0, 0) = 40", "walk(0, 39) = 33",
            "walk(0, 40) = NONE", "faceOf(39) = 0", "faceOf(40) = INVALID", "refused setOuter(1) = INVALID",
            "setOuter(0) = 0");
        checkWalks("13 walks", 13, LADDER, "count(3) = 13", "count(4) = 0", "face(12, 0) = 3", "walk(12, 0) = 24", "walk(12, 1) = 38", "walk(12, 2) = 27",
            "walk(12, 3) = NONE", "walk(13, 0) = INVALID", "face(13, 0) = INVALID", "refused setOuter(13) = INVALID",
            "refused addInFace(0, 1, 13) = INVALID", "setOuter(12) = 0", "count(5) = 12");
        checkWalks("walks of a plain drawing", 4, CORRIDORS);
        checkWalks("walks of a tetrahedron", 4, TETRAHEDRON);
        checkWalks("a walk of 2", 1, "addEdge(3, 2, -1, -1) = 0");
        checkWalks("no walk", 0, "count(3) = 0");
    }

    private static void checkWalks(String title, int faces, String... setup) {
        Script script = Script.run(title, setup);
        script.same("number of faces", script.ask("count(3)"), faces);
        int edges = script.ask("count(1)");
        boolean[] seen = new boolean[2 * edges];
        int previous = -1;
        for (int face = 0; face < faces; face++) {
            int length = script.ask("face(" + face + ", 0)");
            int smallest = script.ask("face(" + face + ", 2)");
            script.same("ascending smallest directed edges", smallest > previous ? 1 : 0, 1);
            previous = smallest;
            int first = script.ask("walk(" + face + ", 0)");
            script.same("the walk begins with the smallest", first, smallest);
            int directed = first;
            for (int k = 0; k < length; k++) {
                script.same("a directed edge twice", seen[directed] ? 1 : 0, 0);
                seen[directed] = true;
                script.same("the smallest", directed >= smallest ? 1 : 0, 1);
                int next = following(script, directed);
                int told = k + 1 < length ? script.ask("walk(" + face + ", " + (k + 1) + ")") : first;
                script.same("behind " + directed, told, next);
                directed = next;
            }
        }
        for (int directed = 0; directed < 2 * edges; directed++) {
            script.same("directed edge " + directed + " in a face", seen[directed] ? 1 : 0, 1);
        }
    }

    private static int following(Script script, int directed) {
        int node = script.ask("edge(" + directed / 2 + ", " + (1 - directed % 2) + ")");
        int k = 0;
        while (script.ask("rotation(" + node + ", " + k + ")") != directed / 2) k++;
        int edge = script.ask("rotation(" + node + ", " + (k + 1) + ")");
        if (edge == PlainDrawing.NONE) edge = script.ask("rotation(" + node + ", 0)");
        return script.ask("edge(" + edge + ", 0)") == node ? 2 * edge : 2 * edge + 1;
    }

    private static void components() {
        Script.run("a node without edges is a component", """
            count(2) = 4
            setNodes(9) = 4
            count(2) = 9
            addEdge(0, 8, -1, -1) = 0
            count(2) = 8
            addEdge(1, 7, -1, -1) = 1
            count(2) = 7
            addEdge(0, 7, -1, -1) = 2
            count(2) = 6
            addEdge(8, 1, -1, -1) = 3
            count(2) = 6
            removeEdge(0) = 3
            count(2) = 6
            removeEdge(0) = 2
            count(2) = 7
            setNodes(2) = 9
            count(2) = 2
            addEdge(0, 1, -1, -1) = 0
            count(2) = 1
            """);
        Script.run("a node without edges is on no face", """
            addEdge(0, 1, -1, -1) = 0
            face(0, 1) = 2
            commonFace(0, 2) = NONE
            commonFace(2, 3) = NONE
            depth(2) = NONE
            refused addInFace(0, 2, 0) = ILLEGAL
            refused addInFace(2, 0, 0) = ILLEGAL
            refused addInFace(2, 3, 0) = ILLEGAL
            """);
        Script.run("The drawing is plain if this holds for each component that has edges; the genus is a sum", """
            count(4) = 0
            write 8:01;02;03;12;13;23;45;46;47;56;57;67;
            load() = 12
            count(4) = 2
            insertionCost(0, 4) = ILLEGAL
            swap(1, 3, 4) = 0
            swap(3, 4, 5) = 0
            count(4) = 1
            insertionCost(0, 4) = ILLEGAL
            swap(5, 9, 10) = 0
            swap(7, 10, 11) = 1
            count(4) = 0
            insertionCost(0, 4) = 0
            setNodes(9) = 8
            count(4) = 0
            """);
        Script.run("the greatest genus: 20 edges of 7 nodes, and one face", """
            write 7:13;06;56;24;16;23;03;35;02;04;12;05;15;46;26;01;25;34;36;14;
            load() = 20
            count(2) = 1
            count(3) = 1
            count(4) = 7
            mirror() = 1
            count(4) = 7
            """);
        Script.run("nodes without edges do not matter for the genus", """
            write 9:01;02;03;12;13;23;
            load() = 6
            count(2) = 6
            count(4) = 1
            swap(1, 3, 4) = 0
            swap(3, 4, 5) = 1
            count(4) = 0
            insertionCost(0, 8) = 0
            """);
    }

    private static void planarity() {
        Script.run("no edges: planar", """
            isPlanar() = 1
            obstruction() = 0
            branching() = 0
            guiltyEdges() = NONE
            canAdd(0, 3) = 1
            """);
        Script.run("20 edges, planar; a 21st may be asked for", LADDER, """
            isPlanar() = 1
            obstruction() = 0
            branching() = 0
            guiltyEdges() = NONE
            canAdd(0, 1) = 1
            canAdd(2, 8) = 1
            canAdd(3, 5) = 0
            """);
        Script.run("20 edges: the edges with the smallest numbers are left out first, the last one is bit 19", """
            write 9:01;02;03;04;12;13;14;23;24;34;45;46;47;48;56;57;58;67;68;78;
            load() = 20
            isPlanar() = 0
            obstruction() = 1047552
            branching() = 496
            guiltyEdges() = 0
            removeEdge(0) = 19
            obstruction() = 523776
            branching() = 496
            guiltyEdges() = 10
            """);
        Script.run("the obstruction is a matter of the graph: a plain rotation is not asked for", """
            write 4:01;02;03;12;13;23;
            load() = 6
            count(4) = 1
            isPlanar() = 1
            obstruction() = 0
            """);
    }

    private static void ways() {
        Script.run("The best way crosses the fewest edges; of several the lexicographically smallest", CORRIDORS, """
            count(3) = 4
            count(4) = 0
            # from 6 to 7 there are the ways 5 1, 2 7, 2 9, 8 7 and 8 9
            insertionCost(6, 7) = 2
            crossed(6, 7, 0) = 2
            crossed(6, 7, 1) = 7
            crossed(6, 7, 2) = NONE
            crossed(6, 7, MAX) = NONE
            # and back the same ways, reversed, of which another one is the smallest
            insertionCost(7, 6) = 2
            crossed(7, 6, 0) = 1
            crossed(7, 6, 1) = 5
            crossed(7, 6, 2) = NONE
            refused crossed(6, 7, -1) = INVALID
            refused crossed(6, 7, MIN) = INVALID
            # nodes on one face: nothing is crossed
            insertionCost(0, 4) = 0
            crossed(0, 4, 0) = NONE
            insertionCost(6, 0) = 0
            # another component: nothing is crossed
            insertionCost(7, 8) = 0
            insertionCost(8, 7) = 0
            crossed(7, 8, 0) = NONE
            crossed(8, 7, 0) = NONE
            crossed(7, 8, -1) = INVALID
            # there is an edge
            insertionCost(5, 7) = ILLEGAL
            crossed(7, 5, 0) = ILLEGAL
            crossed(7, 5, 9) = ILLEGAL
            """);
        Script.run("It begins in any face that the one node is on, and ends in any that the other one is on", """
            setNodes(5) = 4
            addEdge(0, 1, -1, -1) = 0
            addEdge(1, 2, 0, -1) = 1
            addEdge(0, 3, 0, -1) = 2
            addEdge(2, 4, 1, -1) = 3
            addInFace(2, 0, 0) = 4
            addInFace(4, 0, 1) = 5
            count(4) = 0
            # 1 is on the faces 0 and 1; from the face 0 the edge 4 leads to the face of 3, from the face 1 it is 3 or 5
            faceOf(0) = 0
            faceOf(1) = 1
            faceOf(4) = 2
            faceOf(8) = 2
            faceOf(6) = 2
            faceOf(11) = 2
            insertionCost(1, 3) = 1
            crossed(1, 3, 0) = 3
            crossed(1, 3, 1) = NONE
            crossed(3, 1, 0) = 3
            crossed(3, 1, 1) = NONE
            """);
        Script.run("without edges each node is a component", """
            insertionCost(0, 3) = 0
            crossed(0, 3, 0) = NONE
            crossed(0, 3, -1) = INVALID
            crossed(3, 3, 0) = INVALID
            """);
    }

    public static void main(String[] args) {
        nodes();
        edges();
        ends();
        rotations();
        walks();
        components();
        planarity();
        ways();
        Script.finish("the terms");
    }
}

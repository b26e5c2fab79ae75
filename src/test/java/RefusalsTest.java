/** Promise by promise: the refused calls, the order of the error codes, and the last answers before them. */
public final class RefusalsTest {
    /** 20 edges; the outer face is not 0, something is written, and six states are saved. */
    private static final String FULL_LADDER = TermsTest.LADDER + """
        setOuter(12) = 0
        write 4:01
        """;
    private static final String TETRAHEDRON = TermsTest.TETRAHEDRON + """
        setOuter(3) = 0
        write 2:01;
        """;
    /** K4 and a node alone, in a drawing that is not plain. */
    private static final String TWISTED = """
        write 5:01;02;03;12;13;23;
        load() = 6
        count(4) = 1
        """;

    private static void setNodes() {
        Script.run("2: the previous number of nodes; 2 to 9", TETRAHEDRON, """
            refused setNodes(1) = INVALID
            refused setNodes(0) = INVALID
            refused setNodes(-2) = INVALID
            refused setNodes(10) = INVALID
            refused setNodes(MIN) = INVALID
            refused setNodes(MAX) = INVALID
            setNodes(2) = 4
            count(1) = 0
            count(2) = 2
            count(3) = 0
            count(4) = 0
            count(5) = 0
            # the text is no part of the graph
            count(6) = 5
            rotation(0, 0) = NONE
            rotation(1, 0) = NONE
            rotation(2, 0) = INVALID
            setNodes(9) = 2
            rotation(8, 0) = NONE
            setNodes(9) = 9
            undo() = 5
            undo() = 4
            undo() = 3
            count(0) = 4
            count(1) = 6
            count(5) = 3
            """);
    }

    private static void addEdge() {
        Script.run("3: directly behind an edge of its own node, or -1", TETRAHEDRON, """
            setNodes(5) = 4
            addEdge(0, 1, -1, -1) = 0
            addEdge(2, 3, -1, -1) = 1
            # the edges 0 and 1 have nothing to do with the other nodes
            refused addEdge(0, 2, 1, -1) = INVALID
            refused addEdge(0, 2, -1, 0) = INVALID
            refused addEdge(0, 2, 1, 0) = INVALID
            refused addEdge(0, 2, 2, -1) = INVALID
            refused addEdge(0, 2, -1, 2) = INVALID
            refused addEdge(0, 2, -2, -1) = INVALID
            refused addEdge(0, 2, -1, -2) = INVALID
            refused addEdge(0, 2, MIN, -1) = INVALID
            refused addEdge(0, 2, -1, MAX) = INVALID
            refused addEdge(0, 4, -1, 0) = INVALID
            refused addEdge(4, 0, 0, -1) = INVALID
            addEdge(0, 2, 0, 1) = 2
            rotation(0, 0) = 0
            rotation(0, 1) = 2
            rotation(2, 0) = 1
            rotation(2, 1) = 2
            # between two others
            addEdge(0, 4, 0, -1) = 3
            rotation(0, 0) = 0
            rotation(0, 1) = 3
            rotation(0, 2) = 2
            rotation(0, 3) = NONE
            # b is the node whose edge stands behind behindB, also if it is the smaller one
            addEdge(3, 0, -1, 3) = 4
            rotation(3, 0) = 4
            rotation(3, 1) = 1
            rotation(0, 2) = 4
            rotation(0, 3) = 2
            """);
        Script.run("3: INVALID_ARGUMENT before ILLEGAL_STATE before CAPACITY_EXCEEDED", FULL_LADDER, """
            refused addEdge(0, 1, -1, -1) = FULL
            refused addEdge(0, 1, 6, 13) = FULL
            refused addEdge(1, 0, -1, -1) = FULL
            refused addEdge(0, 2, -1, -1) = ILLEGAL
            refused addEdge(2, 0, 14, 3) = ILLEGAL
            refused addEdge(0, 9, -1, -1) = INVALID
            refused addEdge(-1, 0, -1, -1) = INVALID
            refused addEdge(0, 0, -1, -1) = INVALID
            refused addEdge(0, 1, 7, -1) = INVALID
            refused addEdge(0, 1, -1, 6) = INVALID
            refused addEdge(0, 2, 20, -1) = INVALID
            refused addEdge(0, 2, -1, 1) = INVALID
            """);
    }

    private static void addInFace() {
        Script.run("4: ahead of the first directed edge that leaves the end", """
            write 5:01;02;03;
            load() = 3
            # the walk of the face 0 leaves node 0 three times, first along the edge 0, which is the first of its rotation
            addEdge(1, 4, -1, -1) = 3
            walk(0, 0) = 0
            walk(0, 1) = 6
            walk(0, 2) = 7
            walk(0, 3) = 1
            refused addInFace(0, 4, -1) = INVALID
            refused addInFace(0, 4, 1) = INVALID
            addInFace(0, 4, 0) = 4
            rotation(0, 0) = 4
            rotation(0, 1) = 0
            rotation(0, 2) = 1
            rotation(4, 0) = 4
            rotation(4, 1) = 3
            count(4) = 0
            count(3) = 2
            """);
        Script.run("4: ahead of the last edge of a rotation", """
            write 5:01;12;20;
            load() = 3
            walk(1, 0) = 1
            addEdge(1, 3, 0, -1) = 3
            # the face 0 leaves 1 along the new edge, which stands in the middle
            walk(0, 0) = 0
            walk(0, 1) = 6
            walk(0, 2) = 7
            walk(0, 3) = 2
            addInFace(3, 2, 0) = 4
            rotation(2, 0) = 1
            rotation(2, 1) = 4
            rotation(2, 2) = 2
            rotation(3, 0) = 4
            rotation(3, 1) = 3
            count(4) = 0
            count(3) = 3
            """);
        Script.run("4: the order of the error codes", FULL_LADDER, """
            # full: 0 and 1 are on the face 0
            refused addInFace(0, 1, 0) = FULL
            refused addInFace(1, 0, 0) = FULL
            # 3 is not on the face 0
            refused addInFace(0, 3, 0) = ILLEGAL
            refused addInFace(1, 4, 0) = ILLEGAL
            refused addInFace(5, 1, 0) = ILLEGAL
            refused addInFace(2, 8, 1) = ILLEGAL
            refused addInFace(2, 8, 0) = FULL
            # 0 2 is there
            refused addInFace(0, 2, 0) = ILLEGAL
            refused addInFace(2, 0, 12) = ILLEGAL
            refused addInFace(0, 2, 13) = INVALID
            refused addInFace(0, 2, -1) = INVALID
            refused addInFace(0, 1, MIN) = INVALID
            refused addInFace(0, 1, MAX) = INVALID
            refused addInFace(0, 0, 0) = INVALID
            refused addInFace(0, 9, 0) = INVALID
            refused addInFace(-1, 1, 0) = INVALID
            refused addInFace(9, 9, 99) = INVALID
            """);
        Script.run("4: not on the face, with room", TETRAHEDRON, """
            removeEdge(0) = 5
            setNodes(6) = 4
            addEdge(0, 1, -1, -1) = 0
            addEdge(2, 3, -1, -1) = 1
            refused addInFace(0, 2, 0) = ILLEGAL
            refused addInFace(0, 2, 1) = ILLEGAL
            refused addInFace(0, 2, 2) = INVALID
            refused addInFace(4, 0, 0) = ILLEGAL
            refused addInFace(4, 5, 0) = ILLEGAL
            """);
    }

    private static void removeEdge() {
        Script.run("5: the first, one in the middle and the last; greater numbers get 1 less", TermsTest.LADDER, """
            removeEdge(0) = 19
            rotation(0, 0) = 0
            rotation(0, 5) = 5
            rotation(0, 6) = NONE
            rotation(2, 0) = 6
            rotation(2, 1) = 13
            rotation(2, 2) = NONE
            edge(0, 0) = 0
            edge(0, 1) = 3
            edge(18, 0) = 7
            edge(18, 1) = 8
            edge(19, 0) = INVALID
            refused removeEdge(19) = INVALID
            refused removeEdge(-1) = INVALID
            removeEdge(18) = 18
            rotation(7, 2) = 11
            rotation(7, 3) = NONE
            edge(18, 0) = INVALID
            removeEdge(6) = 17
            edge(5, 1) = 8
            edge(6, 0) = 1
            edge(6, 1) = 3
            rotation(1, 0) = 11
            rotation(1, 5) = 6
            rotation(1, 6) = NONE
            rotation(2, 0) = 12
            rotation(2, 1) = NONE
            """);
        Script.run("5: the only edge", """
            addEdge(1, 2, -1, -1) = 0
            refused removeEdge(1) = INVALID
            refused removeEdge(-1) = INVALID
            removeEdge(0) = 0
            count(1) = 0
            count(2) = 4
            count(3) = 0
            rotation(1, 0) = NONE
            refused removeEdge(0) = INVALID
            """);
    }

    private static void swapAndMirror() {
        Script.run("6: an edge of the node, possibly the same one twice", TETRAHEDRON, """
            rotation(3, 0) = 5
            rotation(3, 1) = 4
            rotation(3, 2) = 3
            refused swap(3, 0, 3) = INVALID
            refused swap(3, 3, 0) = INVALID
            refused swap(3, 2, 2) = INVALID
            refused swap(3, -1, 3) = INVALID
            refused swap(3, 3, -1) = INVALID
            refused swap(3, 6, 3) = INVALID
            refused swap(3, 3, 6) = INVALID
            refused swap(4, 3, 3) = INVALID
            refused swap(-1, 3, 3) = INVALID
            refused swap(MAX, MAX, MAX) = INVALID
            refused swap(MIN, MIN, MIN) = INVALID
            # the first with the last one
            swap(3, 5, 3) = 0
            rotation(3, 0) = 3
            rotation(3, 1) = 4
            rotation(3, 2) = 5
            # the same: what is not plain stays so
            swap(3, 4, 4) = 0
            rotation(3, 1) = 4
            swap(3, 3, 5) = 1
            rotation(3, 0) = 5
            swap(3, 5, 5) = 1
            rotation(3, 0) = 5
            rotation(3, 1) = 4
            rotation(3, 2) = 3
            rotation(3, 3) = NONE
            """);
        Script.run("6: two edges of a node are cyclically the same in both orders", """
            addEdge(0, 1, -1, -1) = 0
            addEdge(0, 2, 0, -1) = 1
            swap(0, 0, 1) = 1
            rotation(0, 0) = 1
            rotation(0, 1) = 0
            walk(0, 1) = 1
            walk(0, 2) = 2
            walk(0, 3) = 3
            """);
        Script.run("7: no edges, one edge, even and odd numbers of edges", """
            mirror() = 0
            count(7) = 1
            addEdge(0, 1, -1, -1) = 0
            mirror() = 1
            rotation(0, 0) = 0
            addEdge(0, 2, 0, -1) = 1
            mirror() = 1
            rotation(0, 0) = 1
            rotation(0, 1) = 0
            addEdge(0, 3, 0, -1) = 2
            mirror() = 1
            rotation(0, 0) = 2
            rotation(0, 1) = 0
            rotation(0, 2) = 1
            rotation(0, 3) = NONE
            count(7) = 6
            """);
        Script.run("7: 20 edges", TermsTest.LADDER, """
            mirror() = 13
            rotation(0, 0) = 6
            rotation(0, 6) = 0
            rotation(4, 0) = 16
            rotation(4, 1) = 9
            rotation(4, 2) = 15
            rotation(4, 3) = 2
            # behind the edge 0, now the last one of node 2, comes its first one, 14
            walk(0, 1) = 28
            walk(0, 2) = 3
            walk(0, 3) = NONE
            count(4) = 0
            """);
    }

    private static void lookUps() {
        Script.run("8, 9: INVALID_ARGUMENT before NONE", TermsTest.LADDER, """
            rotation(0, 6) = 6
            rotation(0, 7) = NONE
            rotation(0, 8) = NONE
            rotation(0, MAX) = NONE
            rotation(0, -1) = INVALID
            rotation(0, MIN) = INVALID
            rotation(8, 2) = 13
            rotation(8, 3) = NONE
            rotation(9, 0) = INVALID
            rotation(9, 99) = INVALID
            rotation(-1, 99) = INVALID
            edge(0, 0) = 0
            edge(0, 1) = 2
            edge(0, 2) = INVALID
            edge(0, -1) = INVALID
            edge(0, MAX) = INVALID
            edge(0, MIN) = INVALID
            edge(19, 1) = 8
            edge(19, 2) = INVALID
            edge(20, 0) = INVALID
            edge(20, 1) = INVALID
            edge(-1, 1) = INVALID
            """);
        Script.run("10: 0 to 7", FULL_LADDER, """
            count(-1) = INVALID
            count(MIN) = INVALID
            count(0) = 9
            count(1) = 20
            count(2) = 1
            count(3) = 13
            count(4) = 0
            count(5) = 12
            count(6) = 4
            count(7) = 6
            count(8) = INVALID
            count(MAX) = INVALID
            """);
    }

    private static void faces() {
        Script.run("14: 0 to 3 of a face", FULL_LADDER, """
            face(0, -1) = INVALID
            face(0, 0) = 4
            face(0, 1) = 4
            face(0, 2) = 0
            # the outer face: an edge in common with the first and the last triangle of each side
            face(0, 3) = 4
            face(0, 4) = INVALID
            face(12, 0) = 3
            face(12, 1) = 3
            face(12, 2) = 24
            face(12, 3) = 3
            face(12, 4) = INVALID
            face(13, 0) = INVALID
            face(13, 3) = INVALID
            face(-1, 0) = INVALID
            face(MIN, MIN) = INVALID
            face(MAX, MAX) = INVALID
            """);
        Script.run("14: a face that is on both sides of an edge is not its own neighbour; several edges in common count once", """
            write 5:01;12;20;03;
            load() = 4
            face(0, 0) = 5
            face(0, 1) = 4
            face(0, 3) = 1
            face(1, 0) = 3
            face(1, 1) = 3
            face(1, 3) = 1
            """);
        Script.run("14: no edges, no face", "face(0, 0) = INVALID", "face(0, 2) = INVALID", "walk(0, 0) = INVALID",
            "walk(0, -1) = INVALID", "faceOf(0) = INVALID", "faceOf(-1) = INVALID");
        Script.run("15: INVALID_ARGUMENT before NONE", FULL_LADDER, """
            walk(0, 0) = 0
            walk(0, 1) = 15
            walk(0, 2) = 26
            walk(0, 3) = 13
            walk(0, 4) = NONE
            walk(0, MAX) = NONE
            walk(0, -1) = INVALID
            walk(0, MIN) = INVALID
            walk(12, 3) = NONE
            walk(13, 3) = INVALID
            walk(13, 0) = INVALID
            walk(-1, 9) = INVALID
            walk(-1, -1) = INVALID
            """);
        Script.run("16: 0 to 39", FULL_LADDER, """
            faceOf(-1) = INVALID
            faceOf(0) = 0
            faceOf(1) = 1
            faceOf(38) = 12
            faceOf(39) = 6
            faceOf(40) = INVALID
            faceOf(MIN) = INVALID
            faceOf(MAX) = INVALID
            """);
        Script.run("17: the smallest face of several; INVALID_ARGUMENT before NONE", FULL_LADDER, """
            commonFace(0, 1) = 0
            commonFace(1, 0) = 0
            commonFace(0, 2) = 0
            commonFace(0, 3) = 1
            commonFace(7, 8) = 6
            commonFace(2, 4) = NONE
            commonFace(8, 2) = 0
            commonFace(3, 8) = NONE
            commonFace(3, 3) = INVALID
            commonFace(3, 9) = INVALID
            commonFace(-1, 3) = INVALID
            commonFace(9, 9) = INVALID
            """);
        Script.run("17: without edges", "commonFace(0, 3) = NONE", "commonFace(0, 0) = INVALID", "commonFace(0, 4) = INVALID",
            "commonFace(-1, 0) = INVALID");
    }

    private static void graphs() {
        Script.run("18 to 22: nothing changes", FULL_LADDER, """
            refused isPlanar() = 1
            refused canAdd(0, 1) = 1
            refused canAdd(1, 0) = 1
            refused canAdd(2, 4) = 0
            refused canAdd(0, 2) = ILLEGAL
            refused canAdd(2, 0) = ILLEGAL
            refused canAdd(2, 2) = INVALID
            refused canAdd(2, 9) = INVALID
            refused canAdd(-1, 2) = INVALID
            refused obstruction() = 0
            refused branching() = 0
            refused guiltyEdges() = NONE
            """);
        Script.run("18 to 22: K5, at its last edge", """
            write 5:01;02;03;04;12;13;14;23;24;
            load() = 9
            isPlanar() = 1
            obstruction() = 0
            branching() = 0
            guiltyEdges() = NONE
            refused canAdd(3, 4) = 0
            refused canAdd(4, 3) = 0
            addEdge(3, 4, -1, -1) = 9
            refused isPlanar() = 0
            refused obstruction() = 1023
            refused branching() = 31
            refused guiltyEdges() = 10
            canAdd(3, 4) = ILLEGAL
            """);
        Script.run("18 to 22: K3,3, at its last edge", """
            write 7:03;04;05;13;14;15;23;24;
            load() = 8
            isPlanar() = 1
            obstruction() = 0
            guiltyEdges() = NONE
            canAdd(2, 5) = 0
            canAdd(0, 1) = 1
            canAdd(6, 0) = 1
            addEdge(5, 2, -1, -1) = 8
            isPlanar() = 0
            obstruction() = 511
            branching() = 63
            guiltyEdges() = 9
            # an edge more that is not of the obstruction, and to which nothing is owed
            addEdge(6, 0, -1, -1) = 9
            canAdd(6, 1) = 0
            obstruction() = 511
            branching() = 63
            guiltyEdges() = 9
            """);
        Script.run("19: each node without edges can be joined", """
            canAdd(0, 1) = 1
            canAdd(3, 2) = 1
            canAdd(3, 3) = INVALID
            canAdd(3, 4) = INVALID
            canAdd(-1, 3) = INVALID
            """);
        Script.run("21: three or more edges of the obstruction; nodes in the middle of a long edge have two", """
            write 9:05;51;02;03;04;12;13;14;23;24;34;56;67;78;
            load() = 14
            obstruction() = 2047
            branching() = 31
            guiltyEdges() = 11
            """);
    }

    private static void insertions() {
        Script.run("23, 24: ILLEGAL_STATE if the drawing is not plain, before NONE, behind INVALID_ARGUMENT", TWISTED, """
            refused insertionCost(0, 4) = ILLEGAL
            refused insertionCost(0, 1) = ILLEGAL
            refused insertionCost(0, 0) = INVALID
            refused insertionCost(0, 5) = INVALID
            refused insertionCost(-1, 4) = INVALID
            refused crossed(0, 4, 0) = ILLEGAL
            refused crossed(0, 4, 99) = ILLEGAL
            refused crossed(0, 4, -1) = INVALID
            refused crossed(0, 1, -1) = INVALID
            refused crossed(0, 0, 0) = INVALID
            refused crossed(0, 5, 0) = INVALID
            refused crossed(-1, 4, 0) = INVALID
            # the two swaps that make it plain
            swap(1, 3, 4) = 0
            insertionCost(0, 4) = ILLEGAL
            swap(3, 4, 5) = 1
            insertionCost(0, 4) = 0
            crossed(0, 4, 0) = NONE
            crossed(0, 4, -1) = INVALID
            insertionCost(0, 1) = ILLEGAL
            crossed(0, 1, 0) = ILLEGAL
            crossed(0, 1, 99) = ILLEGAL
            crossed(0, 1, -1) = INVALID
            """);
        Script.run("23, 24: 20 edges do not matter", FULL_LADDER, """
            refused insertionCost(0, 1) = 0
            refused crossed(0, 1, 0) = NONE
            # from 2 to 8 the outer face leads, from 3 to 5 a way around node 4: across its edge to 0 or to 1
            insertionCost(2, 8) = 0
            insertionCost(3, 5) = 1
            crossed(3, 5, 0) = 2
            crossed(3, 5, 1) = NONE
            insertionCost(5, 3) = 1
            crossed(5, 3, 0) = 2
            # past 4 and 5: the edges 2 and 3 to node 0, before 9 and 10 to node 1
            insertionCost(3, 6) = 2
            crossed(3, 6, 0) = 2
            crossed(3, 6, 1) = 3
            crossed(6, 3, 0) = 3
            crossed(6, 3, 1) = 2
            # from 3 to 7 the outer face is nearer: across an edge of 2 and one of 8
            insertionCost(3, 7) = 2
            crossed(3, 7, 0) = 0
            crossed(3, 7, 1) = 6
            crossed(3, 7, 2) = NONE
            insertionCost(7, 3) = 2
            crossed(7, 3, 0) = 6
            crossed(7, 3, 1) = 0
            """);
    }

    private static void outerAndDepth() {
        Script.run("25: the previous outer face; the last face and the first that does not exist", FULL_LADDER, """
            refused setOuter(13) = INVALID
            refused setOuter(-1) = INVALID
            refused setOuter(MIN) = INVALID
            refused setOuter(MAX) = INVALID
            setOuter(0) = 12
            setOuter(12) = 0
            setOuter(12) = 12
            """);
        Script.run("26: INVALID_ARGUMENT before NONE", """
            write 5:01;23;
            load() = 2
            setOuter(1) = 0
            depth(0) = NONE
            depth(2) = 0
            depth(4) = NONE
            depth(5) = INVALID
            depth(-1) = INVALID
            depth(MIN) = INVALID
            depth(MAX) = INVALID
            """);
    }

    private static void undo() {
        Script.run("30: no state, the first one, and none again", """
            refused undo() = ILLEGAL
            addEdge(0, 1, -1, -1) = 0
            count(7) = 1
            undo() = 0
            count(1) = 0
            refused undo() = ILLEGAL
            """);
        Script.run("30: nodes, edges, rotations and the outer face come back", TETRAHEDRON, """
            setNodes(7) = 4
            undo() = 5
            count(0) = 4
            count(1) = 6
            count(5) = 3
            rotation(3, 0) = 5
            rotation(3, 1) = 4
            rotation(3, 2) = 3
            removeEdge(0) = 5
            edge(0, 0) = 1
            undo() = 5
            edge(0, 0) = 0
            edge(5, 1) = 3
            count(5) = 3
            walk(3, 0) = 5
            mirror() = 4
            swap(3, 3, 4) = 0
            undo() = 5
            count(4) = 0
            rotation(3, 0) = 3
            undo() = 4
            rotation(3, 0) = 5
            count(5) = 3
            load() = 1
            count(0) = 2
            undo() = 4
            count(0) = 4
            count(6) = 0
            count(2) = 1
            count(3) = 4
            depth(1) = 1
            position(1, 1, 1) = bits 1.6666666
            """);
    }

    public static void main(String[] args) {
        setNodes();
        addEdge();
        addInFace();
        removeEdge();
        swapAndMirror();
        lookUps();
        faces();
        graphs();
        insertions();
        outerAndDepth();
        undo();
        Script.finish("the refusals");
    }
}

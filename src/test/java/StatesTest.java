/** Outer face, depths, positions, the reading of a text and the saving of states, sentence by sentence. */
public final class StatesTest {
    private static final String TWENTY = "9:01;02;03;04;05;06;07;08;12;13;14;15;16;17;18;23;24;25;26;27;";

    private static void outerFace() {
        Script.run("The outer face is 0 unless it is chosen otherwise, 0 also if there are no faces", """
            count(5) = 0
            refused setOuter(0) = INVALID
            addEdge(0, 1, -1, -1) = 0
            count(5) = 0
            setOuter(0) = 0
            count(5) = 0
            refused setOuter(1) = INVALID
            refused setOuter(-1) = INVALID
            """);
        String[] calls = {
            "setNodes(4) = 5", "addEdge(3, 4, -1, -1) = 6", "addInFace(0, 4, 3) = 7", "removeEdge(5) = 5", "swap(3, 3, 4) = 0",
            "swap(3, 3, 3) = 1", "mirror() = 4", "load() = 1"
        };
        for (String call : calls) {
            String name = call.substring(0, call.indexOf('('));
            Script script = Script.run("A successful call of " + name + "() makes the outer face 0 again", "setNodes(5) = 4",
                TermsTest.TETRAHEDRON, name.equals("addInFace") ? "addEdge(3, 4, 3, -1) = 6" : "", """
                write 3:12;
                setOuter(3) = 0
                count(5) = 3
                """, call, "count(5) = 0", "undo() = 5", "count(5) = 3");
            script.same("states", script.ask("count(7)"), 5);
        }
        Script.run("No other call makes it 0 again", TermsTest.TETRAHEDRON, """
            setOuter(3) = 0
            appendCharacter(50) = 1
            count(5) = 3
            clearText() = 1
            count(5) = 3
            isPlanar() = 1
            canAdd(0, 1) = ILLEGAL
            position(0, 0, 50) = bits 1
            crossings(50) = 0
            count(5) = 3
            setOuter(2) = 3
            undo() = 5
            count(5) = 3
            undo() = 4
            count(5) = 0
            """);
    }

    private static void depths() {
        Script.run("no edges: no node has a depth", """
            depth(0) = NONE
            depth(3) = NONE
            depth(4) = INVALID
            depth(-1) = INVALID
            """);
        Script.run("0 on the outer face; 1 plus the smallest depth beside it; none in another component", TermsTest.CORRIDORS, """
            addEdge(7, 3, -1, 1) = 10
            count(4) = 0
            # the face of the nodes 3 5 7: 0 1 2 6 are two faces away from it
            setOuter(4) = 0
            depth(3) = 0
            depth(5) = 0
            depth(7) = 0
            depth(4) = 1
            depth(0) = 1
            depth(1) = 1
            depth(2) = 1
            depth(6) = 2
            depth(8) = NONE
            depth(9) = INVALID
            """);
        Script.run("two components: the one without the outer face has no depths", """
            write 6:01;12;20;34;
            load() = 4
            depth(2) = 0
            depth(3) = NONE
            depth(5) = NONE
            setOuter(2) = 0
            depth(2) = NONE
            depth(3) = 0
            depth(4) = 0
            depth(5) = NONE
            """);
    }

    private static void fixedNodes() {
        Script script = Script.run("the k-th node on the outer face has the position (k, k * k)", """
            write 9:01;02;03;04;05;06;07;08;
            load() = 8
            """);
        // the walk comes through node 0 again and again, which counts only when it is left first
        for (int node = 0; node < 9; node++) {
            for (int rounds : new int[] {0, 1, 50}) {
                script.go("position(" + node + ", 0, " + rounds + ") = bits " + node);
                script.go("position(" + node + ", 1, " + rounds + ") = bits " + node * node);
            }
        }
        script.go("extent(0) = bits 204");
        script.go("mirror() = 1");
        // now the walk leaves 0, 1, and then 8 before 7
        script.go("position(1, 0, 0) = bits 1");
        script.go("position(8, 0, 0) = bits 2");
        script.go("position(2, 1, 0) = bits 64");
    }

    private static void movedNodes() {
        Script.run("all other nodes begin at (0, 0); sums in the order of the rotation; new positions count in the same round", """
            write 7:24;04;35;45;13;02;05;
            load() = 7
            # fixed are 2 at (0, 0), 4 at (1, 1), 0 at (2, 4)
            walk(0, 0) = 0
            walk(0, 1) = 3
            walk(0, 2) = 10
            position(4, 1, 0) = bits 1
            position(0, 1, 0) = bits 4
            position(5, 1, 0) = bits 0
            position(1, 1, 0) = bits 0
            # 1 has the neighbour 3; 3 has 5 and 1; 5 has 3, 4 and 0
            position(1, 1, 1) = bits 0
            position(3, 1, 1) = bits 0
            position(5, 1, 1) = bits 1.6666666
            position(5, 0, 1) = bits 1
            position(1, 1, 2) = bits 0
            position(3, 1, 2) = bits 0.8333333
            # 0.8333333 + 1 + 4, divided by 3; in another order the sum is another one
            position(5, 1, 2) = bits 1.9444443
            position(1, 1, 3) = bits 0.8333333
            # a node without edges stays where it began
            position(6, 0, 50) = bits 0
            position(6, 1, 50) = bits 0
            # rounds are 0 to 50, the axis is 0 or 1
            position(5, 2, 2) = INVALID
            position(5, -1, 2) = INVALID
            position(5, 1, -1) = INVALID
            position(5, 1, 51) = INVALID
            position(7, 1, 2) = INVALID
            crossings(-1) = INVALID
            crossings(51) = INVALID
            extent(-1) = INVALID
            extent(51) = INVALID
            """);
        slowNodes();
    }

    /** A row of nodes between two fixed ones, where the fiftieth round still changes something. */
    private static void slowNodes() {
        Script script = Script.run("0 to 50 rounds: each round counts", """
            setNodes(9) = 4
            addEdge(0, 1, -1, -1) = 0
            addEdge(1, 2, 0, -1) = 1
            addEdge(2, 0, 1, 0) = 2
            addEdge(0, 3, 0, -1) = 3
            addEdge(3, 4, 3, -1) = 4
            addEdge(4, 5, 4, -1) = 5
            addEdge(5, 6, 5, -1) = 6
            addEdge(6, 7, 6, -1) = 7
            addEdge(7, 8, 7, -1) = 8
            addEdge(8, 1, 8, 1) = 9
            face(0, 0) = 3
            position(1, 1, 50) = bits 1
            """);
        float[] y = new float[10];
        y[9] = 1f;
        for (int rounds = 0; rounds <= 50; rounds++) {
            script.same("y after " + rounds + " rounds", script.ask("position(8, 1, " + rounds + ")"), Float.floatToIntBits(y[8]));
            script.same("x after " + rounds + " rounds", script.ask("position(4, 0, " + rounds + ")"), Float.floatToIntBits(y[4]));
            float before = y[4];
            for (int node = 3; node <= 8; node++) y[node] = ((node == 3 ? 0f : y[node - 1]) + y[node + 1]) / 2f;
            script.same("a change in round " + rounds, rounds < 7 || before != y[4] ? 1 : 0, 1);
        }
        script.go("position(8, 1, 51) = INVALID");
        script.go("position(8, 1, -1) = INVALID");
        script.go("position(8, 1, MAX) = INVALID");
        script.go("position(8, 1, MIN) = INVALID");
        int last = script.ask("extent(50)");
        script.same("extent(49) is another one", script.ask("extent(49)") != last ? 1 : 0, 1);
        script.go("crossings(50) = 0");
    }

    private static void crossingEdges() {
        Script.run("edges that only touch, or lie on one line, or have a common end, do not cross", """
            write 7:24;04;35;45;13;02;05;
            load() = 7
            # 1, 3 and 5 are at (0, 0), where 2 is too: all turns there are 0
            crossings(0) = 0
            """);
        Script.run("one pair that crosses", """
            write 4:02;13;01;12;23;
            load() = 5
            # the walk leaves 0, 2, 1 and 3: on the parabola 0 1 and 2 3 cross, 0 2 and 1 3 do not
            position(0, 0, 0) = bits 0
            position(2, 0, 0) = bits 1
            position(1, 0, 0) = bits 2
            position(3, 0, 0) = bits 3
            crossings(0) = 1
            crossings(50) = 1
            """);
        Script.run("the lengths are added by ascending numbers", """
            write 5:04;01;24;02;13;14;
            load() = 6
            # fixed are 0 at (0, 0), 4 at (1, 1), 2 at (2, 4); 1 and then 3 come to (0.33333334, 0.33333334)
            position(1, 0, 1) = bits 0.33333334
            position(3, 1, 1) = bits 0.33333334
            # 1 + 0.33333334 + 3 + 4 + 0 + 0.6666666; in another order it is 9
            extent(1) = bits 9.000001
            # 1 + 0 + 3 + 4 + 0 + 1
            extent(0) = bits 9
            """);
        Script.run("no edges: no positions, whatever the rounds", """
            position(0, 0, 0) = ILLEGAL
            position(3, 1, 50) = ILLEGAL
            crossings(0) = ILLEGAL
            crossings(50) = ILLEGAL
            extent(0) = ILLEGAL
            extent(50) = ILLEGAL
            position(4, 0, 0) = INVALID
            position(-1, 0, 0) = INVALID
            position(0, 2, 0) = INVALID
            position(0, -1, 0) = INVALID
            position(0, 0, 51) = INVALID
            position(0, 0, -1) = INVALID
            crossings(51) = INVALID
            crossings(-1) = INVALID
            extent(51) = INVALID
            extent(-1) = INVALID
            """);
    }

    /** A node right on an edge: the turn there is 0, and 0 is neither above nor below 0. */
    private static void touchingEdges() {
        Script.run("an edge that ends on another one does not cross it; the node on it has the greatest number", """
            write 6:01;12;23;34;40;15;25;35;45;
            load() = 9
            addEdge(0, 3, 0, 7) = 9
            # 0 to 4 are fixed in this order; 5 comes onto the line from 0 to 3, with 1 and 2 on its one side, 4 on the other
            position(4, 1, 1) = bits 16
            position(5, 0, 1) = bits 2.5
            position(5, 1, 1) = bits 7.5
            crossings(1) = 0
            # before the first round 5 is where 0 is
            crossings(0) = 0
            """);
        Script.run("and the same, where it has the smallest number; node 0 is moved too", """
            write 6:12;23;34;45;51;02;03;04;05;
            load() = 9
            addEdge(1, 4, 0, 7) = 9
            position(0, 0, 0) = bits 0
            position(0, 0, 1) = bits 2.5
            position(0, 1, 1) = bits 7.5
            crossings(1) = 0
            crossings(0) = 0
            """);
        Script.run("a turn of 1 is above 0", """
            write 5:21;31;03;20;42;40;41;
            load() = 7
            # 0 3 and 2 4 cross: the turns are 1 and -3 there
            crossings(1) = 1
            undo() = 0
            write 5:31;04;23;24;21;30;14;
            load() = 7
            # 1 2 and 0 3 cross: the turns are -3 and 1 there
            crossings(0) = 0
            crossings(1) = 1
            """);
        // in each of these one turn is nearer to 0 than 0.3, above or below it, and it still crosses
        for (String text : new String[] {"6:12;03;43;05;42;54;25;", "6:13;53;23;05;54;30;42;", "6:31;35;52;40;43;23;54;"}) {
            Script.run("a turn that is hardly above or below 0", "write " + text, "load() = 7", "crossings(2) = 1");
        }
    }

    private static void pairsOfEdges() {
        Script.run("the first edge and another one", """
            write 4:02;03;12;13;32;10;
            load() = 6
            setOuter(1) = 0
            # 3, 0, 1, 2 are on the parabola in this order, so 0 2 and 1 3 cross: the edges 0 and 3
            crossings(0) = 1
            """);
        Script.run("the last two edges", """
            write 4:32;03;10;02;13;
            load() = 5
            # 2, 3, 0, 1 are on the parabola in this order, so 0 2 and 1 3 cross: the edges 3 and 4
            crossings(0) = 1
            """);
        Script.run("an edge that is no longer there crosses nothing and has no length", """
            write 4:13;03;32;01;
            load() = 4
            removeEdge(3) = 3
            # the walk of the star leaves 1, 3, 0 and 2
            position(2, 0, 0) = bits 3
            crossings(0) = 0
            # 1 + 3 + 8
            extent(0) = bits 12
            """);
        Script.run("a sum just below a power of two", """
            write 6:24;35;54;52;30;15;40;01;
            load() = 8
            extent(0) = bits 17
            extent(1) = bits 15.999999
            """);
    }

    /** Where there were more faces before, these are gone: nodes are not together on them any more. */
    private static void facesOfThePast() {
        Script.run("faces that are gone hold no nodes", TermsTest.TETRAHEDRON, """
            setNodes(4) = 4
            commonFace(0, 1) = NONE
            depth(0) = NONE
            face(0, 0) = INVALID
            walk(0, 0) = INVALID
            faceOf(0) = INVALID
            addEdge(0, 1, -1, -1) = 0
            commonFace(0, 1) = 0
            commonFace(0, 2) = NONE
            commonFace(1, 3) = NONE
            depth(1) = 0
            depth(2) = NONE
            depth(3) = NONE
            extent(0) = bits 1
            extent(50) = bits 1
            """);
    }

    private static void loads(String text, int want) {
        Script script = Script.run("the text '" + text + "'", "mirror() = 0");
        script.write(text);
        if (want < 0) {
            script.go("refused load() = " + want);
            script.go("clearText() = " + text.length());
            return;
        }
        script.go("load() = " + want);
        script.go("count(1) = " + want);
        script.go("count(0) = " + text.strip().charAt(0));
        script.go("count(6) = 0");
        script.go("count(7) = 2");
    }

    /** Every character there is behind a text: which are allowed, and where the error is if they are not. */
    private static void loadsWithEach(String start, String allowed, int ifAllowed, int ifSpace) {
        for (int character = 0; character <= 255; character++) {
            Script script = Script.run("character " + character + " behind '" + start + "'");
            script.write(start);
            script.go("appendCharacter(" + character + ") = " + (start.length() + 1));
            int want = character == 32 ? ifSpace : allowed.indexOf(character) >= 0 ? ifAllowed : -10 - start.length();
            script.go("load() = " + want);
            script.go("count(6) = " + (want < 0 ? start.length() + 1 : 0));
            script.go("count(7) = " + (want < 0 ? 0 : 1));
        }
    }

    private static void characters() {
        loadsWithEach("", "23456789", -11, -11);
        loadsWithEach(" ", "23456789", -12, -12);
        loadsWithEach("4", ":", 0, -12);
        loadsWithEach("2:", "01", -13, 0);
        loadsWithEach("9:", "012345678", -13, 0);
        loadsWithEach("4:0", "123", -14, -14);
        loadsWithEach("9:8", "01234567", -14, -14);
        loadsWithEach("4:12;2", "03", -17, -17);
        loadsWithEach("4:01", ";", 1, -15);
        loadsWithEach("4:01;", "0123", -16, 1);
        loadsWithEach(TWENTY, "", 0, 20);
        loadsWithEach(TWENTY.substring(0, 59), "012345678", -70, 19);
        loadsWithEach(TWENTY.substring(0, 61), ";", 20, -72);
    }

    private static void texts() {
        loads("", -10);
        loads(" ", -11);
        loads("2:", 0);
        loads("9:", 0);
        loads("1:", -10);
        loads("10:", -10);
        loads("22:", -11);
        loads("2:01;", 1);
        loads("2:10;", 1);
        loads("2:02;", -13);
        loads("2:20;", -12);
        loads("2:00;", -13);
        loads("2:01;01;", -16);
        loads("2:01;10;", -16);
        loads("4:01;23;10;", -19);
        loads("4:01;23;1", -19);
        loads("4:01;23;13", -20);
        loads(TWENTY, 20);
        loads(TWENTY + "3", -72);
        loads(TWENTY + "9", -72);
        loads(TWENTY + "  34;", -74);
        loads(TWENTY + " ".repeat(38), 20);
        loads(TWENTY + " ".repeat(37) + "3", -109);
        loads(TWENTY.substring(0, 61), -71);
        loads(" ".repeat(100), -110);
        loads(" ".repeat(99) + "2", -110);
        loads(" ".repeat(99) + "1", -109);
        loads(" ".repeat(98) + "2:", 0);
        loads("2:01" + " ".repeat(95) + ";", 1);
        loads("2:01" + " ".repeat(95) + ":", -109);
        loads("2:01" + " ".repeat(96), -110);
        String text = "3:02;12;";
        for (int at = 0; at <= text.length(); at++) loads(text.substring(0, at) + "  " + text.substring(at), 2);
        Script.run("Each edge becomes the last one in the rotations of its ends", """
            write 4:31;30;23;01;
            load() = 4
            rotation(3, 0) = 0
            rotation(3, 1) = 1
            rotation(3, 2) = 2
            rotation(3, 3) = NONE
            rotation(0, 0) = 1
            rotation(0, 1) = 3
            rotation(1, 0) = 0
            rotation(1, 1) = 3
            edge(0, 0) = 1
            edge(0, 1) = 3
            """);
        textLimits();
    }

    private static void textLimits() {
        Script script = Script.run("at most 100 characters, code 0 to 255", """
            refused appendCharacter(-1) = INVALID
            refused appendCharacter(256) = INVALID
            refused appendCharacter(MIN) = INVALID
            refused appendCharacter(MAX) = INVALID
            clearText() = 0
            appendCharacter(0) = 1
            appendCharacter(255) = 2
            clearText() = 2
            count(6) = 0
            """);
        for (int k = 1; k <= 100; k++) script.go("appendCharacter(" + k + ") = " + k);
        script.go("refused appendCharacter(101) = FULL");
        script.go("clearText() = 100");
        script.go("clearText() = 0");
        script.go("appendCharacter(101) = 1");
    }

    private static void fullText() {
        Script script = Script.run("a full text").write("2:01" + " ".repeat(95));
        script.go("appendCharacter(59) = 100");
        script.go("count(6) = 100");
        script.go("refused appendCharacter(32) = FULL");
        script.go("refused appendCharacter(0) = FULL");
        script.go("refused appendCharacter(255) = FULL");
        script.go("refused appendCharacter(256) = INVALID");
        script.go("refused appendCharacter(-1) = INVALID");
        script.go("load() = 1");
        script.go("count(6) = 0");
        script.go("appendCharacter(32) = 1");
        Script.run("the text is kept when it is not a graph, and can be finished", """
            write 4:01
            refused load() = -14
            count(6) = 4
            appendCharacter(59) = 5
            load() = 1
            count(6) = 0
            # now it is empty
            refused load() = -10
            clearText() = 0
            """);
    }

    private static void savings() {
        Script.run("each of the eight calls saves one state; no other call does", """
            count(7) = 0
            setNodes(5) = 4
            count(7) = 1
            addEdge(0, 1, -1, -1) = 0
            count(7) = 2
            addEdge(1, 2, 0, -1) = 1
            addInFace(0, 2, 0) = 2
            count(7) = 4
            removeEdge(2) = 2
            count(7) = 5
            swap(1, 0, 1) = 1
            count(7) = 6
            undo() = 5
            undo() = 4
            undo() = 3
            mirror() = 1
            count(7) = 4
            setOuter(0) = 0
            count(7) = 5
            write 2:01;
            count(7) = 5
            load() = 1
            count(7) = 6
            write 2:
            clearText() = 2
            isPlanar() = 1
            obstruction() = 0
            insertionCost(0, 1) = ILLEGAL
            position(0, 0, 9) = 0
            count(7) = 6
            """);
        Script.run("swap() of an edge with itself, setOuter() of the outer face and setNodes() of the same number save a state too", """
            addEdge(0, 1, -1, -1) = 0
            swap(0, 0, 0) = 1
            count(7) = 2
            setOuter(0) = 0
            count(7) = 3
            setNodes(4) = 4
            count(7) = 4
            mirror() = 0
            count(7) = 5
            undo() = 4
            undo() = 3
            count(1) = 1
            """);
        for (int states = 0; states <= 14; states++) saveAndUndo(states);
        Script.run("states are saved again behind undo()", """
            setNodes(2) = 4
            setNodes(3) = 2
            setNodes(4) = 3
            setNodes(5) = 4
            setNodes(6) = 5
            setNodes(7) = 6
            setNodes(8) = 7
            undo() = 5
            undo() = 4
            undo() = 3
            count(0) = 5
            setNodes(9) = 5
            setNodes(8) = 9
            count(7) = 5
            setNodes(7) = 8
            count(7) = 6
            setNodes(6) = 7
            count(7) = 6
            undo() = 5
            count(0) = 7
            undo() = 4
            count(0) = 8
            undo() = 3
            count(0) = 9
            undo() = 2
            count(0) = 5
            undo() = 1
            count(0) = 4
            undo() = 0
            count(0) = 3
            refused undo() = ILLEGAL
            """);
        Script.run("the text is no part of a state", """
            write 3:01;
            load() = 1
            write ab
            undo() = 0
            count(6) = 2
            count(0) = 4
            count(1) = 0
            """);
    }

    /** The drawing has one edge more behind each call; at most six calls can be taken back. */
    private static void saveAndUndo(int states) {
        Script script = Script.run(states + " states", "write 6:\nload() = 0\nundo() = 0");
        script.go("refused undo() = ILLEGAL");
        for (int k = 0; k < states; k++) {
            int a = k < 3 ? 0 : k < 5 ? 1 : 2;
            if (k < 6) script.go("addEdge(" + a + ", " + (k < 3 ? k + 1 : k < 5 ? k - 1 : 3) + ", -1, -1) = " + k);
            else script.go("mirror() = " + script.ask("count(3)"));
            script.go("count(7) = " + Math.min(k + 1, 6));
        }
        int edges = Math.min(states, 6);
        for (int left = edges; left > 0; left--) {
            script.go("undo() = " + (left - 1));
            script.go("count(7) = " + (left - 1));
            int past = states - (edges - left + 1);
            script.go("count(1) = " + Math.min(past, 6));
        }
        script.go("refused undo() = ILLEGAL");
        script.go("count(1) = " + Math.max(0, Math.min(states - 6, 6)));
    }

    public static void main(String[] args) {
        outerFace();
        depths();
        fixedNodes();
        movedNodes();
        crossingEdges();
        touchingEdges();
        pairsOfEdges();
        facesOfThePast();
        characters();
        texts();
        fullText();
        savings();
        Script.finish("the states");
    }
}

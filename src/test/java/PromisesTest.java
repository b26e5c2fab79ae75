/** For each promise of the document: ordinary inputs, the edges that it names, wrong inputs. */
public final class PromisesTest {
    private static final int INVALID = PlainDrawing.INVALID_ARGUMENT;
    private static final int ILLEGAL = PlainDrawing.ILLEGAL_STATE;
    private static final int FULL = PlainDrawing.CAPACITY_EXCEEDED;
    private static final int NONE = PlainDrawing.NONE;
    private static final String K5 = "5:01;02;03;04;12;13;14;23;24;34;";
    private static final String K33 = "6:03;04;05;13;14;15;23;24;25;";
    private static final String TWENTY = "9:01;02;03;04;05;06;07;08;12;13;14;15;16;17;18;23;24;25;26;27;";

    private static int wrong = 0;

    private static void due(int promise, String what, int got, int want) {
        if (got != want) {
            wrong++;
            System.out.println("promise " + promise + ": " + what + " answered " + got + ", due is " + want);
        }
    }

    private static void write(PlainDrawing x, String text) {
        for (int i = 0; i < text.length(); i++) x.appendCharacter(text.charAt(i));
    }

    private static PlainDrawing of(String text) {
        PlainDrawing x = new PlainDrawing();
        write(x, text);
        int edges = x.load();
        if (edges < 0) throw new IllegalStateException(text + " answered " + edges);
        return x;
    }

    /** Around node 0 the edges 0, 1, 2 to the nodes 1, 2, 3; one face; node 4 is alone. */
    private static PlainDrawing star() {
        return of("5:01;02;03;");
    }

    /** K4 without crossings: the triangle 0, 1, 2 and node 3 inside; the edges 0 1, 1 2, 2 0, 0 3, 3 1, 3 2. */
    private static PlainDrawing tetrahedron() {
        PlainDrawing x = new PlainDrawing();
        x.addEdge(0, 1, -1, -1);
        x.addEdge(1, 2, 0, -1);
        x.addEdge(2, 0, 1, 0);
        x.addEdge(0, 3, -1, -1);
        x.addInFace(3, 1, 0);
        x.addInFace(3, 2, 2);
        return x;
    }

    private static void rotationIs(int promise, PlainDrawing x, int node, int... edges) {
        for (int k = 0; k < edges.length; k++) {
            due(promise, "rotation(" + node + ", " + k + ")", x.rotation(node, k), edges[k]);
        }
        due(promise, "rotation(" + node + ") at its end", x.rotation(node, edges.length), NONE);
    }

    private static void walkIs(int promise, PlainDrawing x, int face, int... directed) {
        due(promise, "length of face " + face, x.face(face, 0), directed.length);
        for (int k = 0; k < directed.length; k++) {
            due(promise, "walk(" + face + ", " + k + ")", x.walk(face, k), directed[k]);
            due(promise, "faceOf(" + directed[k] + ")", x.faceOf(directed[k]), face);
        }
        due(promise, "walk(" + face + ") at its end", x.walk(face, directed.length), NONE);
    }

    private static void newObject() {
        PlainDrawing x = new PlainDrawing();
        int[] counts = {4, 0, 4, 0, 0, 0, 0, 0};
        for (int what = 0; what < counts.length; what++) due(1, "count(" + what + ")", x.count(what), counts[what]);
        due(1, "undo()", x.undo(), ILLEGAL);
        due(1, "load()", x.load(), -10);
        for (int node = 0; node < 4; node++) rotationIs(1, x, node);
    }

    private static void setNodes() {
        PlainDrawing x = tetrahedron();
        int saved = x.count(7);
        due(2, "setNodes(1)", x.setNodes(1), INVALID);
        due(2, "setNodes(10)", x.setNodes(10), INVALID);
        due(2, "setNodes(-4)", x.setNodes(-4), INVALID);
        due(2, "edges", x.count(1), 6);
        due(2, "saved", x.count(7), saved);
        x.setOuter(2);
        due(2, "setNodes(9)", x.setNodes(9), 4);
        due(2, "nodes", x.count(0), 9);
        due(2, "edges", x.count(1), 0);
        due(2, "faces", x.count(3), 0);
        due(2, "outer", x.count(5), 0);
        rotationIs(2, x, 0);
        due(2, "setNodes(2)", x.setNodes(2), 9);
        due(2, "setNodes(2)", x.setNodes(2), 2);
        due(2, "addEdge(0, 2)", x.addEdge(0, 2, -1, -1), INVALID);
        due(2, "undo()", x.undo(), 5);
        due(2, "undo()", x.undo(), 4);
        due(2, "undo()", x.undo(), 3);
        due(2, "outer again", x.count(5), 2);
    }

    private static void addEdge() {
        PlainDrawing x = star();
        due(3, "behind 1", x.addEdge(0, 4, 1, -1), 3);
        rotationIs(3, x, 0, 0, 1, 3, 2);
        rotationIs(3, x, 4, 3);
        due(3, "behind 3 at node 4, first at node 2", x.addEdge(4, 2, 3, -1), 4);
        rotationIs(3, x, 4, 3, 4);
        rotationIs(3, x, 2, 4, 1);
        due(3, "behind the last", x.addEdge(2, 3, 1, 2), 5);
        rotationIs(3, x, 2, 4, 1, 5);
        rotationIs(3, x, 3, 2, 5);
        due(3, "first at both", x.addEdge(4, 3, -1, -1), 6);
        rotationIs(3, x, 4, 6, 3, 4);
        rotationIs(3, x, 3, 6, 2, 5);
        due(3, "smaller end", x.edge(6, 0), 3);
        int saved = x.count(7);
        due(3, "same node", x.addEdge(1, 1, -1, -1), INVALID);
        due(3, "no node -1", x.addEdge(-1, 1, -1, -1), INVALID);
        due(3, "no node 5", x.addEdge(1, 5, -1, -1), INVALID);
        due(3, "behindA no edge of a", x.addEdge(1, 2, 1, -1), INVALID);
        due(3, "behindB no edge of b", x.addEdge(1, 2, -1, 0), INVALID);
        due(3, "behindA -2", x.addEdge(1, 2, -2, -1), INVALID);
        due(3, "behindB 7", x.addEdge(1, 2, -1, 7), INVALID);
        due(3, "there already", x.addEdge(0, 1, -1, -1), ILLEGAL);
        due(3, "there already, the other way", x.addEdge(4, 0, -1, 2), ILLEGAL);
        due(3, "there already, and a wrong behind", x.addEdge(0, 1, 9, -1), INVALID);
        due(3, "edges", x.count(1), 7);
        due(3, "saved", x.count(7), saved);
        PlainDrawing full = of(TWENTY);
        due(3, "21st", full.addEdge(3, 4, -1, -1), FULL);
        due(3, "21st, there already", full.addEdge(0, 1, -1, -1), ILLEGAL);
        due(3, "21st, wrong node", full.addEdge(0, 9, -1, -1), INVALID);
        due(3, "edges", full.count(1), 20);
        full.setOuter(1);
        full.removeEdge(19);
        full.setOuter(1);
        due(3, "20th", full.addEdge(3, 4, -1, -1), 19);
        due(3, "outer", full.count(5), 0);
    }

    private static void addInFace() {
        PlainDrawing x = star();
        walkIs(4, x, 0, 0, 1, 2, 3, 4, 5);
        due(4, "1 2 in 0", x.addInFace(1, 2, 0), 3);
        rotationIs(4, x, 1, 3, 0);
        rotationIs(4, x, 2, 3, 1);
        walkIs(4, x, 0, 0, 6, 3, 4, 5);
        walkIs(4, x, 1, 1, 2, 7);
        x.setOuter(1);
        due(4, "3 2 in 0", x.addInFace(3, 2, 0), 4);
        due(4, "outer", x.count(5), 0);
        rotationIs(4, x, 3, 4, 2);
        rotationIs(4, x, 2, 3, 4, 1);
        due(4, "genus", x.count(4), 0);
        int saved = x.count(7);
        due(4, "same node", x.addInFace(1, 1, 0), INVALID);
        due(4, "no node", x.addInFace(1, 5, 0), INVALID);
        due(4, "no node", x.addInFace(-1, 1, 0), INVALID);
        due(4, "no face", x.addInFace(1, 3, 3), INVALID);
        due(4, "no face", x.addInFace(1, 3, -1), INVALID);
        due(4, "no face, and an edge already", x.addInFace(0, 1, 3), INVALID);
        due(4, "an edge already", x.addInFace(1, 0, 0), ILLEGAL);
        due(4, "not on the face", x.addInFace(1, 4, 0), ILLEGAL);
        due(4, "not on the face", x.addInFace(3, 1, 1), ILLEGAL);
        due(4, "saved", x.count(7), saved);
        due(4, "without faces", new PlainDrawing().addInFace(0, 1, 0), INVALID);
        PlainDrawing full = of(TWENTY);
        int face = full.commonFace(3, 4);
        due(4, "21st", full.addInFace(3, 4, face), FULL);
        due(4, "21st, there already", full.addInFace(0, 1, 0), ILLEGAL);
        PlainDrawing twice = of("4:01;12;");
        due(4, "a node that is left twice", twice.addEdge(1, 3, 0, -1), 2);
        rotationIs(4, twice, 1, 0, 2, 1);
        walkIs(4, twice, 0, 0, 4, 5, 2, 3, 1);
        due(4, "0 2 in 0", twice.addInFace(0, 2, 0), 3);
        rotationIs(4, twice, 0, 3, 0);
        rotationIs(4, twice, 2, 3, 1);
        PlainDrawing inner = star();
        inner.addInFace(1, 2, 0);
        inner.addEdge(1, 4, 3, -1);
        walkIs(4, inner, 1, 1, 2, 7, 8, 9);
        due(4, "ahead of an edge that is not first", inner.addInFace(0, 4, 1), 5);
        rotationIs(4, inner, 0, 0, 5, 1, 2);
        rotationIs(4, inner, 4, 5, 4);
        due(4, "genus", inner.count(4), 0);
    }

    private static void removeEdge() {
        PlainDrawing x = tetrahedron();
        rotationIs(5, x, 3, 5, 4, 3);
        x.setOuter(2);
        due(5, "removeEdge(3)", x.removeEdge(3), 5);
        due(5, "outer", x.count(5), 0);
        rotationIs(5, x, 3, 4, 3);
        rotationIs(5, x, 0, 0, 2);
        due(5, "end", x.edge(3, 0), 1);
        due(5, "end", x.edge(3, 1), 3);
        due(5, "end", x.edge(4, 0), 2);
        int saved = x.count(7);
        due(5, "removeEdge(5)", x.removeEdge(5), INVALID);
        due(5, "removeEdge(-1)", x.removeEdge(-1), INVALID);
        due(5, "saved", x.count(7), saved);
        for (int left = 4; left >= 0; left--) due(5, "removeEdge(0)", x.removeEdge(0), left);
        due(5, "removeEdge(0)", x.removeEdge(0), INVALID);
    }

    private static void swap() {
        PlainDrawing x = tetrahedron();
        rotationIs(6, x, 3, 5, 4, 3);
        x.setOuter(1);
        due(6, "swap(3, 3, 5)", x.swap(3, 3, 5), 0);
        rotationIs(6, x, 3, 3, 4, 5);
        due(6, "genus", x.count(4), 1);
        due(6, "outer", x.count(5), 0);
        due(6, "swap(3, 4, 4)", x.swap(3, 4, 4), 0);
        due(6, "swap(3, 5, 3)", x.swap(3, 5, 3), 1);
        rotationIs(6, x, 3, 5, 4, 3);
        x.setOuter(1);
        int saved = x.count(7);
        due(6, "swap(4, 3, 3)", x.swap(4, 3, 3), INVALID);
        due(6, "swap(-1, 3, 3)", x.swap(-1, 3, 3), INVALID);
        due(6, "swap(3, 0, 3)", x.swap(3, 0, 3), INVALID);
        due(6, "swap(3, 3, 0)", x.swap(3, 3, 0), INVALID);
        due(6, "swap(3, -1, 3)", x.swap(3, -1, 3), INVALID);
        due(6, "swap(3, 3, 6)", x.swap(3, 3, 6), INVALID);
        due(6, "saved", x.count(7), saved);
        due(6, "outer", x.count(5), 1);
        due(6, "swap of the same", x.swap(3, 3, 3), 1);
        due(6, "outer", x.count(5), 0);
        due(6, "undo()", x.undo(), 5);
        due(6, "outer", x.count(5), 1);
    }

    private static void mirror() {
        PlainDrawing x = tetrahedron();
        x.setOuter(3);
        due(7, "mirror()", x.mirror(), 4);
        rotationIs(7, x, 3, 3, 4, 5);
        due(7, "outer", x.count(5), 0);
        due(7, "undo()", x.undo(), 5);
        rotationIs(7, x, 3, 5, 4, 3);
        PlainDrawing star = star();
        due(7, "mirror()", star.mirror(), 1);
        rotationIs(7, star, 0, 2, 1, 0);
        due(7, "without edges", new PlainDrawing().mirror(), 0);
    }

    private static void rotation() {
        PlainDrawing x = star();
        rotationIs(8, x, 0, 0, 1, 2);
        rotationIs(8, x, 4);
        due(8, "rotation(-1, 0)", x.rotation(-1, 0), INVALID);
        due(8, "rotation(5, 0)", x.rotation(5, 0), INVALID);
        due(8, "rotation(0, -1)", x.rotation(0, -1), INVALID);
        due(8, "rotation(5, 9)", x.rotation(5, 9), INVALID);
        due(8, "rotation(0, MAX)", x.rotation(0, Integer.MAX_VALUE), NONE);
        PlainDrawing full = of(TWENTY);
        due(8, "rotation(0, 7)", full.rotation(0, 7), 7);
        due(8, "rotation(0, 8)", full.rotation(0, 8), NONE);
    }

    private static void edge() {
        PlainDrawing x = of("9:85;38;");
        due(9, "edge(0, 0)", x.edge(0, 0), 5);
        due(9, "edge(0, 1)", x.edge(0, 1), 8);
        due(9, "edge(1, 0)", x.edge(1, 0), 3);
        due(9, "edge(1, 1)", x.edge(1, 1), 8);
        due(9, "edge(2, 0)", x.edge(2, 0), INVALID);
        due(9, "edge(-1, 0)", x.edge(-1, 0), INVALID);
        due(9, "edge(0, 2)", x.edge(0, 2), INVALID);
        due(9, "edge(0, -1)", x.edge(0, -1), INVALID);
        due(9, "edge(20, 0)", of(TWENTY).edge(20, 0), INVALID);
    }

    private static void count() {
        PlainDrawing x = of("9:01;12;20;34;");
        x.setOuter(2);
        write(x, "abc");
        int[] counts = {9, 4, 6, 3, 0, 2, 3, 2};
        for (int what = 0; what < counts.length; what++) due(10, "count(" + what + ")", x.count(what), counts[what]);
        due(10, "count(8)", x.count(8), INVALID);
        due(10, "count(-1)", x.count(-1), INVALID);
        due(10, "genus of K5", of(K5).count(4), 2);
        PlainDrawing two = of("8:01;02;03;12;13;23;45;46;47;56;57;67;");
        due(10, "components", two.count(2), 2);
        due(10, "genus of two bad K4", two.count(4), 2);
        for (int k = 0; k < 9; k++) x.mirror();
        due(10, "at most six states", x.count(7), 6);
    }

    private static void text() {
        PlainDrawing x = new PlainDrawing();
        due(11, "appendCharacter(0)", x.appendCharacter(0), 1);
        due(11, "appendCharacter(255)", x.appendCharacter(255), 2);
        due(11, "appendCharacter(256)", x.appendCharacter(256), INVALID);
        due(11, "appendCharacter(-1)", x.appendCharacter(-1), INVALID);
        due(12, "clearText()", x.clearText(), 2);
        due(12, "clearText()", x.clearText(), 0);
        for (int k = 1; k <= 100; k++) due(11, "appendCharacter(32)", x.appendCharacter(32), k);
        due(11, "101st", x.appendCharacter(32), FULL);
        due(11, "101st, out of range", x.appendCharacter(256), INVALID);
        due(11, "length", x.count(6), 100);
        due(13, "load() of spaces", x.load(), -110);
        due(12, "clearText()", x.clearText(), 100);
        due(12, "length", x.count(6), 0);
        due(12, "nothing is saved", x.count(7), 0);
    }

    private static void loadIs(String text, int want) {
        PlainDrawing x = tetrahedron();
        x.setOuter(3);
        int saved = x.count(7);
        write(x, text);
        due(13, "load() of '" + text + "'", x.load(), want);
        due(13, "length of '" + text + "'", x.count(6), want < 0 ? text.length() : 0);
        due(13, "outer of '" + text + "'", x.count(5), want < 0 ? 3 : 0);
        due(13, "saved of '" + text + "'", x.count(7), want < 0 ? saved : Math.min(saved + 1, 6));
        due(13, "edges of '" + text + "'", x.count(1), want < 0 ? 6 : want);
    }

    private static void load() {
        loadIs("2:", 0);
        loadIs("9:", 0);
        loadIs("2:01;", 1);
        loadIs(" 3 : 0 2 ; 1 2 ; ", 2);
        loadIs(K5, 10);
        loadIs(TWENTY, 20);
        loadIs(TWENTY + "  ", 20);
        loadIs(TWENTY + "34;", -10 - TWENTY.length());
        loadIs(TWENTY + " x", -11 - TWENTY.length());
        loadIs("", -10);
        loadIs("1:", -10);
        loadIs("0:", -10);
        loadIs(":", -10);
        loadIs("12:", -10);
        loadIs("22:", -11);
        loadIs("2", -11);
        loadIs("2 ", -12);
        loadIs("2;", -11);
        loadIs("4:0", -13);
        loadIs("4:04;", -13);
        loadIs("4:41;", -12);
        loadIs("4:00;", -13);
        loadIs("4:01", -14);
        loadIs("4:01  ", -16);
        loadIs("4:01:", -14);
        loadIs("4:012;", -14);
        loadIs("4:01;;", -15);
        loadIs("4:01;10;", -16);
        loadIs("4:01;2", -16);
        loadIs("9:89;", -13);
        loadIs("4:0a;", -13);
        loadIs("4:01;\t", -15);
        loadIs("4:0" + (char) 178, -13);
        PlainDrawing x = of("4:30;32;31;");
        rotationIs(13, x, 3, 0, 1, 2);
        due(13, "end", x.edge(0, 0), 0);
        due(13, "end", x.edge(0, 1), 3);
    }

    private static void face() {
        PlainDrawing x = tetrahedron();
        int[][] walks = {{0, 8, 7}, {1, 4, 3}, {2, 10, 9}, {5, 6, 11}};
        for (int f = 0; f < walks.length; f++) {
            walkIs(14, x, f, walks[f]);
            due(14, "nodes", x.face(f, 1), 3);
            due(14, "smallest", x.face(f, 2), walks[f][0]);
            due(14, "neighbours", x.face(f, 3), 3);
        }
        PlainDrawing star = star();
        due(14, "length", star.face(0, 0), 6);
        due(14, "nodes", star.face(0, 1), 4);
        due(14, "neighbours", star.face(0, 3), 0);
        due(14, "no such face", star.face(1, 0), INVALID);
        due(14, "no such face", star.face(-1, 0), INVALID);
        due(14, "no such property", star.face(0, 4), INVALID);
        due(14, "no such property", star.face(0, -1), INVALID);
        due(14, "neighbours of a triangle", of("3:01;12;20;").face(1, 3), 1);
    }

    private static void walk() {
        PlainDrawing x = star();
        walkIs(15, x, 0, 0, 1, 2, 3, 4, 5);
        due(15, "walk(0, -1)", x.walk(0, -1), INVALID);
        due(15, "walk(1, 0)", x.walk(1, 0), INVALID);
        due(15, "walk(-1, 0)", x.walk(-1, 0), INVALID);
        due(15, "walk(1, 99)", x.walk(1, 99), INVALID);
        due(15, "walk(0, MAX)", x.walk(0, Integer.MAX_VALUE), NONE);
        due(16, "faceOf(5)", x.faceOf(5), 0);
        due(16, "faceOf(6)", x.faceOf(6), INVALID);
        due(16, "faceOf(-1)", x.faceOf(-1), INVALID);
        due(16, "faceOf(40)", of(TWENTY).faceOf(40), INVALID);
        due(16, "faceOf(MAX)", x.faceOf(Integer.MAX_VALUE), INVALID);
        walkIs(16, of("6:01;23;34;42;"), 2, 3, 6, 5);
    }

    private static void commonFace() {
        PlainDrawing x = tetrahedron();
        due(17, "commonFace(0, 1)", x.commonFace(0, 1), 0);
        due(17, "commonFace(2, 1)", x.commonFace(2, 1), 1);
        due(17, "commonFace(3, 2)", x.commonFace(3, 2), 2);
        due(17, "commonFace(3, 3)", x.commonFace(3, 3), INVALID);
        due(17, "commonFace(-1, 3)", x.commonFace(-1, 3), INVALID);
        due(17, "commonFace(3, 4)", x.commonFace(3, 4), INVALID);
        due(17, "other component", of("4:01;23;").commonFace(1, 2), NONE);
        due(17, "no edges", star().commonFace(0, 4), NONE);
    }

    private static void isPlanar() {
        due(18, "K5", of(K5).isPlanar(), 0);
        due(18, "K3,3", of(K33).isPlanar(), 0);
        due(18, "K4 with a bad drawing", of("4:01;02;03;12;13;23;").isPlanar(), 1);
        due(18, "nothing", new PlainDrawing().isPlanar(), 1);
        due(18, "K5 without an edge", of("5:01;02;03;04;12;13;14;23;24;").isPlanar(), 1);
        due(18, "K3,3 without an edge", of("6:03;04;05;13;14;15;23;24;").isPlanar(), 1);
        due(18, "longer K5", of("9:05;51;06;62;07;73;08;84;12;13;14;23;24;34;").isPlanar(), 0);
        due(18, "longer K3,3", of("9:06;63;04;05;17;73;14;15;28;83;24;25;").isPlanar(), 0);
        due(18, "Petersen's graph with an edge contracted",
            of("9:01;12;23;34;40;05;16;27;38;57;68;74;85;46;").isPlanar(), 0);
        due(18, "a full triangulation but one edge",
            of("9:01;02;12;03;13;23;04;14;34;05;15;45;06;16;56;07;17;67;08;18;").isPlanar(), 1);
        due(18, "K4 and K4 at one node", of("7:01;02;03;12;13;23;34;35;36;45;46;56;").isPlanar(), 1);
        due(18, "K4 and K5 at one node", of("8:01;02;03;12;13;23;34;35;36;37;45;46;47;56;57;67;").isPlanar(), 0);
        due(18, "single edges that exclude one another",
            of("8:45;41;76;71;64;16;06;07;72;73;62;52;43;63;20;35;").isPlanar(), 0);
        due(18, "single edges that exclude one another",
            of("9:71;34;35;28;65;52;06;15;81;08;87;32;74;07;64;38;").isPlanar(), 0);
        due(18, "the cube", of("8:01;13;32;20;45;57;76;64;04;15;26;37;").isPlanar(), 1);
        due(18, "the cube with a long diagonal", of("8:01;13;32;20;45;57;76;64;04;15;26;37;07;").isPlanar(), 0);
    }

    private static void canAdd() {
        PlainDrawing x = of("5:01;02;03;04;12;13;14;23;24;");
        due(19, "canAdd(3, 4)", x.canAdd(3, 4), 0);
        due(19, "canAdd(4, 3)", x.canAdd(4, 3), 0);
        due(19, "canAdd(0, 1)", x.canAdd(0, 1), ILLEGAL);
        due(19, "canAdd(1, 0)", x.canAdd(1, 0), ILLEGAL);
        due(19, "canAdd(0, 0)", x.canAdd(0, 0), INVALID);
        due(19, "canAdd(0, 5)", x.canAdd(0, 5), INVALID);
        due(19, "canAdd(-1, 0)", x.canAdd(-1, 0), INVALID);
        due(19, "nothing is added", x.count(1), 9);
        x.removeEdge(0);
        due(19, "canAdd(3, 4)", x.canAdd(3, 4), 1);
        PlainDrawing full = of("9:01;02;12;03;13;23;04;14;34;05;15;45;06;16;56;07;17;67;08;18;");
        due(19, "a 21st edge that fits", full.canAdd(7, 8), 1);
        due(19, "a 21st edge that fits not", full.canAdd(5, 8), 0);
        due(19, "edges", full.count(1), 20);
    }

    private static void obstruction() {
        due(20, "K5", of(K5).obstruction(), 1023);
        due(21, "K5", of(K5).branching(), 31);
        due(22, "K5", of(K5).guiltyEdges(), 10);
        due(20, "K3,3", of(K33).obstruction(), 511);
        due(21, "K3,3", of(K33).branching(), 63);
        due(22, "K3,3", of(K33).guiltyEdges(), 9);
        PlainDrawing planar = tetrahedron();
        due(20, "planar", planar.obstruction(), 0);
        due(21, "planar", planar.branching(), 0);
        due(22, "planar", planar.guiltyEdges(), NONE);
        PlainDrawing longer = of("9:05;51;06;62;03;04;12;13;14;23;24;34;17;");
        due(20, "longer K5", longer.obstruction(), 4095);
        due(21, "longer K5", longer.branching(), 31);
        due(22, "longer K5", longer.guiltyEdges(), 12);
        // in K6 the edges of node 0 have the smallest numbers and go: the K5 of the others is left
        PlainDrawing six = of("6:01;02;03;04;05;12;13;14;15;23;24;25;34;35;45;");
        due(20, "K6 leaves out early edges", six.obstruction(), 32736);
        due(21, "K6", six.branching(), 62);
        due(22, "K6", six.guiltyEdges(), 0);
        PlainDrawing mixed = of("6:01;03;04;05;13;14;15;23;24;25;");
        due(20, "K3,3 and the edge 0 1", mixed.obstruction(), 1022);
        due(21, "K3,3 and the edge 0 1", mixed.branching(), 63);
        due(22, "K3,3 and the edge 0 1", mixed.guiltyEdges(), 9);
    }

    private static void insertions() {
        PlainDrawing none = new PlainDrawing();
        due(23, "no edges", none.insertionCost(0, 3), 0);
        due(24, "no edges", none.crossed(0, 3, 0), NONE);
        PlainDrawing parts = of("6:01;12;20;34;");
        due(23, "other component", parts.insertionCost(0, 3), 0);
        due(24, "other component", parts.crossed(3, 0, 0), NONE);
        PlainDrawing x = tetrahedron();
        due(23, "connected", x.insertionCost(0, 1), ILLEGAL);
        due(24, "connected", x.crossed(1, 0, 0), ILLEGAL);
        due(23, "same", x.insertionCost(1, 1), INVALID);
        due(23, "no node", x.insertionCost(4, 1), INVALID);
        due(23, "no node", x.insertionCost(1, -1), INVALID);
        due(24, "same", x.crossed(1, 1, 0), INVALID);
        due(24, "no node", x.crossed(1, 4, 0), INVALID);
        due(24, "negative k", x.crossed(0, 1, -1), INVALID);
        x.removeEdge(0);
        due(23, "0 1", x.insertionCost(0, 1), 0);
        PlainDrawing bad = of("5:01;02;03;12;13;23;");
        due(23, "not plain", bad.insertionCost(0, 4), ILLEGAL);
        due(24, "not plain", bad.crossed(0, 4, 0), ILLEGAL);
        due(24, "not plain, negative k", bad.crossed(0, 4, -1), INVALID);
        nestedTriangles();
    }

    /** Node 0 outside the triangle 1 2 3, in this the triangle 4 5 6, and in this node 7. */
    private static void nestedTriangles() {
        double[][] at = {{0, 20}, {0, 12}, {-12, -8}, {12, -8}, {0, 6}, {-5, -4}, {5, -4}, {0, 0}};
        int[][] edges = {{0, 1}, {5, 6}, {2, 3}, {6, 4}, {1, 2}, {4, 5}, {3, 1}, {1, 4}, {4, 7}};
        PlainDrawing x = drawn(at, edges);
        due(23, "genus", x.count(4), 0);
        due(23, "faces", x.count(3), 3);
        due(23, "0 7", x.insertionCost(0, 7), 2);
        due(23, "7 0", x.insertionCost(7, 0), 2);
        due(24, "0 7, first", x.crossed(0, 7, 0), 2);
        due(24, "0 7, second", x.crossed(0, 7, 1), 1);
        due(24, "0 7, at its end", x.crossed(0, 7, 2), NONE);
        due(24, "7 0, first", x.crossed(7, 0, 0), 1);
        due(24, "7 0, second", x.crossed(7, 0, 1), 2);
        due(23, "0 2", x.insertionCost(0, 2), 0);
        due(24, "0 2", x.crossed(0, 2, 0), NONE);
        due(23, "0 5", x.insertionCost(0, 5), 1);
        due(24, "0 5", x.crossed(0, 5, 0), 2);
        due(24, "3 7", x.crossed(3, 7, 0), 1);
        due(24, "alone", x.crossed(7, 8, 0), INVALID);
    }

    /** A drawing with straight edges: around each node they stand by ascending angles. */
    private static PlainDrawing drawn(double[][] at, int[][] edges) {
        PlainDrawing x = new PlainDrawing();
        x.setNodes(at.length);
        for (int[] e : edges) {
            x.addEdge(e[0], e[1], placeBefore(x, at, e[0], e[1]), placeBefore(x, at, e[1], e[0]));
        }
        return x;
    }

    private static int placeBefore(PlainDrawing x, double[][] at, int node, int goal) {
        int behind = -1;
        for (int k = 0; x.rotation(node, k) >= 0; k++) {
            int e = x.rotation(node, k);
            int other = x.edge(e, 0) == node ? x.edge(e, 1) : x.edge(e, 0);
            if (angle(at, node, other) < angle(at, node, goal)) behind = e;
        }
        return behind;
    }

    private static double angle(double[][] at, int from, int to) {
        return Math.atan2(at[to][1] - at[from][1], at[to][0] - at[from][0]);
    }

    private static void outer() {
        PlainDrawing x = tetrahedron();
        due(25, "setOuter(3)", x.setOuter(3), 0);
        due(25, "setOuter(3)", x.setOuter(3), 3);
        due(25, "setOuter(4)", x.setOuter(4), INVALID);
        due(25, "setOuter(-1)", x.setOuter(-1), INVALID);
        due(25, "count(5)", x.count(5), 3);
        due(25, "without faces", new PlainDrawing().setOuter(0), INVALID);
        due(25, "undo()", x.undo(), 5);
        due(25, "count(5)", x.count(5), 3);
        due(25, "undo()", x.undo(), 4);
        due(25, "count(5)", x.count(5), 0);
    }

    private static void depth() {
        PlainDrawing x = tetrahedron();
        x.setOuter(1);
        due(26, "depth(0)", x.depth(0), 0);
        due(26, "depth(3)", x.depth(3), 1);
        due(26, "depth(4)", x.depth(4), INVALID);
        due(26, "depth(-1)", x.depth(-1), INVALID);
        due(26, "without edges", new PlainDrawing().depth(0), NONE);
        PlainDrawing parts = of("6:01;12;20;34;");
        due(26, "other component", parts.depth(3), NONE);
        due(26, "alone", parts.depth(5), NONE);
        parts.setOuter(2);
        due(26, "depth(1)", parts.depth(1), NONE);
        due(26, "depth(4)", parts.depth(4), 0);
        prism();
    }

    /** Three triangles, each inside the other, and an edge from each node to the next triangle. */
    private static void prism() {
        double[][] at = {
            {0, 12}, {-12, -8}, {12, -8}, {0, 6}, {-6, -4}, {6, -4}, {0, 3}, {-3, -2}, {3, -2}
        };
        int[][] edges = {
            {0, 1}, {1, 2}, {2, 0}, {3, 4}, {4, 5}, {5, 3}, {6, 7}, {7, 8}, {8, 6},
            {0, 3}, {1, 4}, {2, 5}, {3, 6}, {4, 7}, {5, 8}
        };
        PlainDrawing x = drawn(at, edges);
        due(26, "genus", x.count(4), 0);
        due(26, "faces", x.count(3), 8);
        int side = x.face(x.faceOf(0), 0) == 3 ? 0 : 1;
        x.setOuter(x.faceOf(side));
        for (int node = 0; node < 9; node++) due(26, "depth(" + node + ")", x.depth(node), node / 3);
        due(23, "0 8", x.insertionCost(0, 8), 1);
        due(24, "0 8", x.crossed(0, 8, 0), 5);
        due(24, "8 0", x.crossed(8, 0, 0), 5);
        due(24, "0 7", x.crossed(0, 7, 0), 3);
        due(24, "1 6", x.crossed(1, 6, 0), 3);
        due(28, "the outer nodes hold the others", x.crossings(50), 0);
    }

    private static void positions() {
        PlainDrawing x = tetrahedron();
        x.setOuter(1);
        // the walk of face 1 leaves the nodes 1, 0, 2
        int[] order = {1, 0, 2};
        for (int k = 0; k < 3; k++) {
            due(27, "x of a fixed node", x.position(order[k], 0, 7), Float.floatToIntBits(k));
            due(27, "y of a fixed node", x.position(order[k], 1, 7), Float.floatToIntBits(k * k));
        }
        due(27, "x before the rounds", x.position(3, 0, 0), 0);
        due(27, "x after a round", x.position(3, 0, 1), Float.floatToIntBits((0f + 2f + 0f + 1f) / 3f));
        due(27, "y after 50 rounds", x.position(3, 1, 50), Float.floatToIntBits((0f + 4f + 0f + 1f) / 3f));
        due(27, "position(4, 0, 0)", x.position(4, 0, 0), INVALID);
        due(27, "position(-1, 0, 0)", x.position(-1, 0, 0), INVALID);
        due(27, "position(0, 2, 0)", x.position(0, 2, 0), INVALID);
        due(27, "position(0, -1, 0)", x.position(0, -1, 0), INVALID);
        due(27, "position(0, 0, 51)", x.position(0, 0, 51), INVALID);
        due(27, "position(0, 0, -1)", x.position(0, 0, -1), INVALID);
        PlainDrawing none = new PlainDrawing();
        due(27, "no edges", none.position(0, 0, 0), ILLEGAL);
        due(27, "no edges, wrong axis", none.position(0, 2, 0), INVALID);
        due(28, "no edges", none.crossings(0), ILLEGAL);
        due(28, "no edges, wrong rounds", none.crossings(51), INVALID);
        due(28, "wrong rounds", x.crossings(-1), INVALID);
        due(28, "plain", x.crossings(50), 0);
        due(29, "no edges", none.extent(0), ILLEGAL);
        due(29, "no edges, wrong rounds", none.extent(-1), INVALID);
        due(29, "wrong rounds", x.extent(51), INVALID);
        // 1 0: 1; 1 2: 4; 2 0: 3; and node 3 at (0, 0): 1, 0, 4
        due(29, "before the rounds", x.extent(0), Float.floatToIntBits(13f));
        // node 3 alone is not in a face with the others: it stays at (0, 0)
        PlainDrawing parts = of("6:01;12;20;34;");
        due(27, "other component", parts.position(4, 1, 50), 0);
        due(27, "alone", parts.position(5, 0, 50), 0);
        // all five nodes of K5 are on face 0: on a parabola each of the 5 pairs of diagonals crosses
        PlainDrawing five = of(K5);
        due(28, "K5", five.crossings(0), 5);
        due(28, "K5", five.crossings(50), 5);
    }

    private static void undo() {
        PlainDrawing x = new PlainDrawing();
        due(30, "undo()", x.undo(), ILLEGAL);
        x.setNodes(5);
        x.addEdge(0, 1, -1, -1);
        x.addEdge(1, 2, 0, -1);
        x.addInFace(0, 2, 0);
        x.setOuter(1);
        write(x, "3:01;");
        x.load();
        x.addEdge(1, 2, -1, -1);
        write(x, "ab");
        due(30, "saved", x.count(7), 6);
        due(30, "undo() of addEdge", x.undo(), 5);
        due(30, "edges", x.count(1), 1);
        due(30, "undo() of load", x.undo(), 4);
        due(30, "nodes", x.count(0), 5);
        due(30, "edges", x.count(1), 3);
        due(30, "outer", x.count(5), 1);
        due(30, "the text stays", x.count(6), 2);
        due(30, "undo() of setOuter", x.undo(), 3);
        due(30, "outer", x.count(5), 0);
        due(30, "undo() of addInFace", x.undo(), 2);
        rotationIs(30, x, 0, 0);
        rotationIs(30, x, 1, 0, 1);
        due(30, "faces", x.count(3), 1);
        due(30, "undo() of addEdge", x.undo(), 1);
        due(30, "undo() of addEdge", x.undo(), 0);
        due(30, "the oldest state is gone", x.undo(), ILLEGAL);
        due(30, "nodes", x.count(0), 5);
        due(30, "edges", x.count(1), 0);
    }

    public static void main(String[] args) {
        newObject();
        setNodes();
        addEdge();
        addInFace();
        removeEdge();
        swap();
        mirror();
        rotation();
        edge();
        count();
        text();
        load();
        face();
        walk();
        commonFace();
        isPlanar();
        canAdd();
        obstruction();
        insertions();
        outer();
        depth();
        positions();
        undo();
        System.out.println(wrong == 0 ? "all promises are kept" : wrong + " answers are not as due");
        if (wrong != 0) System.exit(1);
    }
}

/**
 * Promise 18 over all graphs of few nodes: how many of them are planar is known (1023 of the 1024
 * graphs of five nodes, since only K5 is not; for more nodes sequence A066537 of the OEIS).
 */
public final class PlanarGraphsTest {
    private static final int[] PLANAR = {0, 0, 2, 8, 64, 1023, 32071};
    /** Graphs of nine nodes on which a test by sketches goes wrong if it forgets one thing; these are not planar. */
    private static final String[] NINE_NOT_PLANAR = {
        "9:04;06;07;14;15;16;23;24;25;34;35;37;38;45;46;47;48;58;", "9:05;06;07;15;18;24;25;27;28;34;35;37;38;45;56;67;",
        "9:01;02;03;04;05;06;07;13;16;24;28;36;45;47;48;58;78;", "9:01;02;03;04;05;06;07;13;17;24;25;26;37;45;46;56;",
        "9:01;02;03;05;06;07;08;13;18;26;27;28;35;38;48;58;67;68;78;",
        "9:02;04;05;06;07;08;14;16;17;18;23;25;27;35;37;47;57;67;78;",
        "9:03;04;06;08;12;13;14;24;27;34;35;36;37;38;45;46;47;58;68;",
        "9:01;04;05;06;07;08;13;15;17;24;34;35;36;37;38;46;48;68;", "9:02;03;04;05;08;12;13;16;17;23;26;27;36;37;45;48;58;67;",
        "9:02;04;06;12;16;17;23;25;27;28;36;37;45;48;56;58;68;", "9:01;02;03;06;07;08;14;18;24;25;34;38;46;47;56;57;67;",
        "9:02;07;08;12;13;15;23;24;25;26;47;48;67;68;", "9:02;05;06;07;12;13;15;16;18;27;34;38;57;67;",
        "9:01;04;05;06;07;08;12;13;14;15;23;28;38;45;46;48;57;68;78;", "9:01;02;04;07;12;16;26;34;36;37;45;48;56;58;67;68;78;",
        "9:04;07;08;12;14;17;25;28;36;37;38;46;47;56;58;78;", "9:06;07;08;12;13;18;26;27;28;35;36;45;47;48;58;67;68;78;"
    };
    /**
     * And these are: a part that hangs at one node of the sketch belongs to another block, and paths and
     * faces of the sketch may be as long as in these.
     */
    private static final String[] NINE_PLANAR = {
        "9:02;04;12;14;15;18;24;25;28;34;36;37;45;46;47;48;67;", "9:03;04;05;06;13;17;18;23;24;25;26;34;36;37;38;78;",
        "9:01;05;06;08;12;15;18;23;24;34;37;47;56;67;68;", "9:01;03;08;13;17;24;25;26;28;37;45;48;56;57;68;",
        "9:02;04;07;08;13;16;18;24;25;27;34;36;48;56;57;67;", "9:02;06;07;12;13;14;23;27;28;38;47;48;56;57;58;68;78;"
    };

    private static int wrong = 0;

    private static void due(String what, int got, int want) {
        if (got != want) {
            wrong++;
            System.out.println(what + " is " + got + ", due is " + want);
        }
    }

    /** The graph whose edges are the members of a set of pairs, the pair 0 1 being bit 0. */
    private static PlainDrawing graph(int nodes, int pairs) {
        PlainDrawing x = new PlainDrawing();
        x.setNodes(nodes);
        int bit = 0;
        for (int a = 0; a < nodes; a++) {
            for (int b = a + 1; b < nodes; b++) {
                if ((pairs >> bit++ & 1) != 0) x.addEdge(a, b, -1, -1);
            }
        }
        return x;
    }

    private static void countPlanar(int nodes) {
        int planar = 0;
        for (int pairs = 0; pairs < 1 << nodes * (nodes - 1) / 2; pairs++) {
            PlainDrawing x = graph(nodes, pairs);
            int answer = x.isPlanar();
            planar += answer;
            due("'obstruction() is 0' of the graph " + pairs, x.obstruction() == 0 ? 1 : 0, answer);
            due("'branching() is 0' of the graph " + pairs, x.branching() == 0 ? 1 : 0, answer);
            due("'guiltyEdges() is NONE' of the graph " + pairs, x.guiltyEdges() == PlainDrawing.NONE ? 1 : 0, answer);
        }
        due("the number of planar graphs of " + nodes + " nodes", planar, PLANAR[nodes]);
    }

    /** Without one of its edges an obstruction is planar, so it is K5 or K3,3 with longer edges. */
    private static void checkObstructions(int nodes) {
        for (int pairs = 0; pairs < 1 << nodes * (nodes - 1) / 2; pairs++) {
            PlainDrawing x = graph(nodes, pairs);
            int rest = x.obstruction();
            if (rest == 0) continue;
            int branching = Integer.bitCount(x.branching());
            due("'5 or 6 branching nodes' of the graph " + pairs, branching == 5 || branching == 6 ? 1 : 0, 1);
            for (int edge = x.count(1) - 1; edge >= 0; edge--) {
                if ((rest >> edge & 1) == 0) x.removeEdge(edge);
            }
            due("the number of edges in the obstruction of " + pairs, x.count(1), Integer.bitCount(rest));
            due("the guilty edges of the obstruction of " + pairs, x.guiltyEdges(), Integer.bitCount(rest));
        }
    }

    private static void nineNodes(String[] texts, int want) {
        for (String text : texts) {
            PlainDrawing x = new PlainDrawing();
            ReferenceDrawing reference = new ReferenceDrawing();
            for (char sign : text.toCharArray()) {
                x.appendCharacter(sign);
                reference.appendCharacter(sign);
            }
            due("load() of " + text, x.load(), reference.load());
            due("isPlanar() of " + text, x.isPlanar(), want);
            due("isPlanar() of the reference of " + text, reference.isPlanar(), want);
            due("obstruction() of " + text, x.obstruction(), reference.obstruction());
            due("branching() of " + text, x.branching(), reference.branching());
            due("guiltyEdges() of " + text, x.guiltyEdges(), reference.guiltyEdges());
        }
    }

    public static void main(String[] args) {
        for (int nodes = 2; nodes < PLANAR.length; nodes++) countPlanar(nodes);
        checkObstructions(6);
        nineNodes(NINE_NOT_PLANAR, 0);
        nineNodes(NINE_PLANAR, 1);
        System.out.println(wrong == 0 ? "the planar graphs are as many as is due" : wrong + " things are not as due");
        if (wrong != 0) System.exit(1);
    }
}

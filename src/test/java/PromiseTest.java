/** Each promise of the document by hand: ordinary inputs, the edges that it names, and wrong inputs. */
public final class PromiseTest {
    private static final int NONE = RingCrowd.NONE, BAD = RingCrowd.BAD, STATE = RingCrowd.STATE,
        FULL = RingCrowd.FULL, KIND = RingCrowd.KIND;
    private static final int[] WRONG = {-1, Integer.MIN_VALUE, Integer.MAX_VALUE};

    private static int wrong = 0;
    private static String promise = "";

    private static void due(String what, int got, int want) {
        if (got != want) {
            wrong++;
            System.out.println(promise + ": " + what + " answered " + got + ", due is " + want);
        }
    }

    private static RingCrowd crowd(int n, int... places) {
        RingCrowd x = new RingCrowd(n);
        for (int place : places) {
            x.robot(place);
        }
        return x;
    }

    private static int feedAll(RingCrowd x, String text) {
        int answer = x.count(6);
        for (int from = 0; from < text.length(); from += 8) {
            int many = Math.min(8, text.length() - from);
            long w = 0;
            for (int i = 0; i < many; i++) {
                w = (w << 8) | text.charAt(from + i);
            }
            answer = x.feed(w, many);
        }
        return answer;
    }

    private static int read(RingCrowd x, String text) {
        feedAll(x, text);
        return x.rules();
    }

    private static RingCrowd with(RingCrowd x, String text) {
        int answer = read(x, text);
        if (answer < 0) {
            due("the test's own rules " + text, answer, 0);
        }
        return x;
    }

    private static void row(String what, RingCrowd x, int place, int... want) {
        for (int i = 0; i < want.length; i++) {
            due(what + " view(" + place + ", " + i + ")", x.view(place, i), want[i]);
        }
        due(what + " behind its view", x.view(place, want.length), NONE);
    }

    private static void places(String what, RingCrowd x, int... want) {
        for (int place = 0; place < want.length; place++) {
            due(what + " at(" + place + ")", x.at(place), want[place]);
        }
    }

    private static void names(String what, RingCrowd x, int... want) {
        for (int place = 0; place < want.length; place++) {
            due(what + " name(" + place + ")", x.name(place), want[place]);
        }
    }

    private static void proofs(String what, RingCrowd x, int waking, int goal, int... want) {
        for (int i = 0; i < want.length; i++) {
            due(what + " proves(" + waking + ", " + goal + ", " + i + ")", x.proves(waking, goal, i), want[i]);
        }
    }

    private static void traces(String what, RingCrowd x, int... want) {
        for (int i = 0; i < want.length; i++) {
            due(what + " trace(" + i + ")", x.trace(i), want[i]);
        }
        due(what + " behind the trace", x.trace(want.length), NONE);
    }

    public static void main(String[] args) {
        aNewObject();
        robots();
        wiping();
        counting();
        views();
        doing();
        naming();
        goals();
        stepping();
        going();
        feeding();
        texts();
        textFaults();
        textLimits();
        faults();
        proving();
        provingRefusals();
        starting();
        kinds();
        asKinds();
        asking();
        tracing();
        refusalsChangeNothing();
        System.out.println(wrong == 0 ? "PromiseTest: all answers are as due" : "PromiseTest: " + wrong + " wrong");
        if (wrong != 0) {
            System.exit(1);
        }
    }

    private static void aNewObject() {
        promise = "1 a new object";
        int[][] sizes = {{3, 3}, {9, 9}, {6, 6}, {2, 3}, {0, 3}, {-5, 3}, {10, 9}, {Integer.MAX_VALUE, 9},
            {Integer.MIN_VALUE, 3}};
        for (int[] size : sizes) {
            RingCrowd x = new RingCrowd(size[0]);
            due("count(0) of " + size[0], x.count(0), size[1]);
            due("count(1)", x.count(1), 0);
            due("count(3)", x.count(3), 0);
            due("count(6)", x.count(6), 0);
            due("fault()", x.fault(), 0);
            due("the last place", x.at(size[1] - 1), 0);
            due("one place more", x.at(size[1]), BAD);
        }
    }

    private static void robots() {
        promise = "2 robot";
        RingCrowd x = new RingCrowd(5);
        due("the first", x.robot(4), 1);
        due("the second there", x.robot(4), 2);
        due("the third", x.robot(0), 3);
        due("place 5", x.robot(5), BAD);
        due("the fourth", x.robot(2), 4);
        due("a fifth", x.robot(2), FULL);
        due("a fifth at no place: BAD goes first", x.robot(5), BAD);
        for (int place : WRONG) {
            due("robot(" + place + ")", x.robot(place), BAD);
        }
        places("then", x, 1, 0, 1, 0, 2);
    }

    private static void wiping() {
        promise = "3 wipe";
        RingCrowd x = with(crowd(5, 1, 1, 2), "see 1 1,4 2 near;");
        feedAll(x, "abc");
        due("wipe()", x.wipe(), 3);
        due("again", x.wipe(), 0);
        places("then", x, 0, 0, 0, 0, 0);
        due("the rules stay", x.count(3), 1);
        due("the tape stays", x.count(6), 3);
        due("room for four", x.robot(0), 1);
    }

    private static void counting() {
        promise = "4 at, 20 count";
        RingCrowd x = crowd(6, 0, 3, 3);
        places("of three", x, 1, 0, 0, 2, 0, 0);
        due("count(1)", x.count(1), 3);
        due("count(2)", x.count(2), 2);
        due("turns", x.count(4), 1);
        due("mirrors: through 0 and 3", x.count(5), 1);
        due("count(7)", x.count(7), BAD);
        for (int what : WRONG) {
            due("count(" + what + ")", x.count(what), BAD);
            due("at(" + what + ")", x.at(what), BAD);
        }
        due("at(6)", x.at(6), BAD);
        x = crowd(8, 0, 2, 4, 6);
        due("turns of a square", x.count(4), 4);
        due("mirrors of a square", x.count(5), 4);
        x = crowd(9, 0, 1, 3, 6);
        due("turns of a rigid one", x.count(4), 1);
        due("mirrors of a rigid one", x.count(5), 0);
        x = new RingCrowd(7);
        due("turns of none", x.count(4), 7);
        due("mirrors of none", x.count(5), 7);
        x = crowd(4, 0, 1, 2, 3);
        due("turns of a full ring", x.count(4), 4);
        due("mirrors of a full ring", x.count(5), 4);
    }

    private static void views() {
        promise = "5 view";
        row("alone", crowd(7, 3), 3, 7, 1);
        row("all at one place", crowd(9, 8, 8, 8, 8), 8, 9, 4);
        RingCrowd x = crowd(9, 0, 1, 3, 6);
        row("up is less", x, 0, 1, 1, 2, 1, 3, 1, 3, 1);
        row("down is less", x, 1, 1, 1, 3, 1, 3, 1, 2, 1);
        row("down is less", x, 3, 2, 1, 1, 1, 3, 1, 3, 1);
        row("up is less in its second gap", x, 6, 3, 1, 1, 1, 2, 1, 3, 1);
        x = crowd(6, 0, 2, 2, 4);
        row("a number decides", x, 0, 2, 1, 2, 2, 2, 1);
        row("both are the same", x, 2, 2, 1, 2, 1, 2, 2);
        due("no robot is there", x.view(1, 0), NONE);
        due("item -1", x.view(0, -1), NONE);
        due("the least item", x.view(0, Integer.MIN_VALUE), NONE);
        due("the greatest item", x.view(0, Integer.MAX_VALUE), NONE);
        due("place 6", x.view(6, 0), BAD);
        for (int place : WRONG) {
            due("view(" + place + ", 0)", x.view(place, 0), BAD);
            due("view(" + place + ", -1)", x.view(place, -1), BAD);
        }
    }

    private static void doing() {
        promise = "6 does";
        RingCrowd x = crowd(7, 0, 2);
        due("no rules", x.does(0), 0);
        with(x, "see 2 1,5 1 near;");
        due("near, up", x.does(0), 1);
        due("near, down", x.does(2), -1);
        with(x, "see 2 1,5 1 far;");
        due("far, down", x.does(0), -1);
        due("far, up", x.does(2), 1);
        with(x, "see 2 1,5 1 stay;");
        due("stay", x.does(0), 0);
        with(x, "see 5 1,2 1 near;");
        due("a row that is no view", x.does(0), 0);
        with(x, "see 2 1 near;");
        due("a row that only begins so", x.does(0), 0);
        x = with(crowd(6, 0, 3), "see 3 1,3 1 near;");
        due("both rows are the same", x.does(3), 2);
        with(x, "see 3 1,3 1 far;");
        due("both rows are the same, far", x.does(0), 2);
        with(x, "see 3 1,3 1 stay;");
        due("both rows are the same, stay", x.does(0), 0);
        due("no robot is there", x.does(1), NONE);
        due("place 6", x.does(6), BAD);
        for (int place : WRONG) {
            due("does(" + place + ")", x.does(place), BAD);
        }
    }

    private static void naming() {
        promise = "7 name";
        names("none", new RingCrowd(4), 0, 0, 0, 0);
        names("two at a place first", crowd(5, 1, 3, 3), 2, 0, 1, 0, 0);
        names("turned", crowd(6, 4, 5, 1), 1, 1, 0, 1, 0, 0);
        names("in a mirror", crowd(6, 5, 4, 2), 1, 1, 0, 1, 0, 0);
        names("all rows are looked at", crowd(9, 0, 3, 5, 8), 1, 1, 0, 0, 1, 0, 1, 0, 0);
        due("place 5", crowd(5, 0).name(5), BAD);
        for (int place : WRONG) {
            due("name(" + place + ")", crowd(5, 0).name(place), BAD);
        }
    }

    private static void goals() {
        promise = "8 goal";
        int[][] of = {
            // n, together, spread, side by side, places ..
            {6, 1, 1, 1, 2}, {6, 1, 0, 0, 2, 2}, {9, 1, 0, 0, 8, 8, 8, 8}, {7, 0, 1, 0, 0, 2, 4}, {7, 0, 1, 0, 0, 2, 5},
            {7, 0, 0, 0, 0, 1, 4}, {8, 0, 1, 0, 0, 2, 5}, {8, 0, 0, 0, 0, 2, 4}, {9, 0, 1, 0, 0, 2, 4, 6},
            {9, 0, 0, 0, 0, 3, 6, 8}, {9, 0, 1, 0, 0, 3, 6}, {6, 0, 1, 0, 0, 1, 2, 4}, {6, 0, 1, 0, 0, 1, 3, 4},
            {6, 0, 0, 1, 0, 1, 2, 3}, {6, 0, 0, 1, 5, 0, 1}, {6, 0, 0, 0, 0, 1, 3}, {6, 0, 0, 0, 0, 0, 1},
            {6, 0, 0, 0, 0, 0, 3, 3}, {4, 0, 1, 1, 0, 1, 2, 3}, {3, 0, 1, 1, 0, 1, 2}, {3, 0, 0, 0, 0, 1, 2, 2},
            {3, 0, 1, 1, 2, 0}, {5, 0, 1, 0, 1, 4}, {5, 0, 0, 1, 0, 4}, {9, 0, 1, 0, 0, 4}, {9, 0, 0, 0, 0, 3}};
        for (int[] one : of) {
            RingCrowd x = crowd(one[0], java.util.Arrays.copyOfRange(one, 4, one.length));
            for (int goal = 0; goal < 3; goal++) {
                due("goal(" + goal + ") of " + java.util.Arrays.toString(one), x.goal(goal), one[1 + goal]);
            }
        }
        RingCrowd none = new RingCrowd(5);
        for (int goal = 0; goal < 3; goal++) {
            due("without robots", none.goal(goal), 0);
        }
        due("goal(3)", none.goal(3), BAD);
        for (int goal : WRONG) {
            due("goal(" + goal + ")", crowd(5, 1).goal(goal), BAD);
        }
    }

    private static void stepping() {
        promise = "9 step";
        RingCrowd x = with(crowd(7, 0, 2), "see 2 1,5 1 near;");
        due("both meet", x.step(), 2);
        places("then", x, 0, 2, 0, 0, 0, 0, 0);
        due("all stay", x.step(), 0);
        x = with(crowd(6, 2, 5), "see 3 1,3 1 near;");
        due("either goes up", x.step(), 2);
        places("over the last place", x, 1, 0, 0, 1, 0, 0);
        x = with(crowd(5, 0, 1), "see 1 1,4 1 near;");
        due("they change places", x.step(), 2);
        places("as before", x, 1, 1, 0, 0, 0);
        with(x, "see 1 1,4 1 far;");
        due("they go apart, below place 0", x.step(), 2);
        places("then", x, 0, 0, 1, 0, 1);
        x = with(crowd(6, 0, 0, 3), "see 3 1,3 2 near;");
        due("two of three", x.step(), 2);
        places("then", x, 0, 2, 0, 1, 0, 0);
        x = with(crowd(9, 4, 4, 4, 4), "see 9 4 far;");
        due("all four", x.step(), 4);
        due("all four are up", x.at(5), 4);
        due("no robots", new RingCrowd(5).step(), STATE);
    }

    private static void going() {
        promise = "10 go";
        RingCrowd x = with(crowd(6, 0, 0, 3), "see 3 1,3 2 near;see 1 1,2 1,3 1 near;");
        due("it stays", x.go(3, 1), STATE);
        due("none is there", x.go(1, 1), STATE);
        due("place 6", x.go(6, 1), BAD);
        for (int place : WRONG) {
            due("go(" + place + ", 1)", x.go(place, 1), BAD);
        }
        places("nothing went", x, 2, 0, 0, 1, 0, 0);
        due("one of both goes up", x.go(0, 1), 1);
        places("then", x, 1, 1, 0, 1, 0, 0);
        due("the view leads it, whatever way says", x.go(1, -1), STATE);
        due("near is up", x.go(0, 0), 1);
        places("then", x, 0, 2, 0, 1, 0, 0);
        int[] downs = {0, -1, 2, Integer.MAX_VALUE, Integer.MIN_VALUE};
        for (int way : downs) {
            x = with(crowd(5, 0), "see 5 1 far;");
            due("either, way " + way, x.go(0, way), 1);
            due("goes down, way " + way, x.at(4), 1);
        }
        x = with(crowd(5, 4), "see 5 1 near;");
        due("either, way 1", x.go(4, 1), 1);
        due("goes up over the last place", x.at(0), 1);
        due("no robots", new RingCrowd(5).go(0, 1), STATE);
    }

    private static void feeding() {
        promise = "11 feed";
        RingCrowd x = new RingCrowd(9);
        due("eight bytes", x.feed(0x7365652039203120L, 8), 8);
        due("the lowest five", x.feed(0x1234566e6561723bL, 5), 13);
        due("they are 'see 9 1 near;'", x.rules(), 1);
        due("n 0", x.feed(1, 0), BAD);
        due("n 9", x.feed(1, 9), BAD);
        for (int n : WRONG) {
            due("n " + n, x.feed(1, n), BAD);
        }
        due("nothing has come", x.count(6), 0);
        for (int i = 1; i <= 49; i++) {
            due("feed " + i, x.feed(0x2020202020202020L, 8), 8 * i);
        }
        due("four more", x.feed(0x20202020L, 4), 396);
        due("five are too many", x.feed(0x3b3b3b3b3bL, 5), FULL);
        due("BAD goes first", x.feed(0, 9), BAD);
        due("none came", x.count(6), 396);
        due("four are not", x.feed(0x2020200aL, 4), 400);
        due("one is too many", x.feed(32, 1), FULL);
        due("blanks alone", x.rules(), 0);
        due("empty then", x.count(6), 0);
        due("the highest bit", x.feed(-1L, 8), 8);
        due("bytes of 255", x.rules(), -1000100);
    }

    private static void texts() {
        promise = "12 rules";
        String[] texts = {"", " \n ", "see 1 1 near;", "\n see\n1 \n1near ;\n", "see1 1near;see2 1far;see3 1stay;",
            "see01 09stay;", "see 99 99,1 1,2 2,3 3 far;", "see 1 1,2 2 near;see 2 2,1 1 far;",
            "see 1 1 near;see 1 1,1 1 near;see 1 1,1 1,1 1 near;see 1 1,1 1,1 1,1 1 near;"};
        int[] many = {0, 0, 1, 1, 3, 1, 1, 2, 4};
        RingCrowd x = crowd(9, 4);
        for (int i = 0; i < texts.length; i++) {
            due(texts[i], read(x, texts[i]), many[i]);
            due("count(3)", x.count(3), many[i]);
            due("count(6)", x.count(6), 0);
        }
        due("a row of before is free", read(x, "see 1 1 far;"), 1);
        due("again", read(x, "see 1 1 far;see 9 1 near;"), 2);
        due("they are in force", x.does(4), 2);
        due("a fault", read(x, "see 9 1 stay;see"), -1000116);
        due("the rules stay", x.does(4), 2);
        due("as many", x.count(3), 2);
        due("the tape is empty", x.count(6), 0);
        due("an empty text", x.rules(), 0);
        due("in place of those before", x.does(4), 0);
        due("figures with a 0 ahead", read(x, "see 09 01 near;"), 1);
        due("are the same number", x.does(4), 2);
    }

    private static void textFaults() {
        promise = "12 rules, 13 fault";
        Object[][] faults = {
            {"near", 0, 1}, {"see", 3, 1}, {";", 0, 1}, {",", 0, 1}, {"1", 0, 1}, {"0", 0, 1}, {"see ;", 4, 1},
            {"see see", 4, 1}, {"see near", 4, 1}, {"see 1 near", 6, 1}, {"see 1,1 near;", 5, 1},
            {"see 1 1 near", 12, 1}, {"see 1 1 near;x", 13, 1}, {"see 1 1 near ; x", 15, 1}, {"see 1 1 near\t;", 12, 1},
            {"see 1 1 near\r;", 12, 1}, {"See 1 1 near;", 0, 1}, {"see 1 1 nearr;", 8, 1}, {"see 1 1 nea;", 8, 1},
            {"see 1 1 seenear;", 8, 1}, {"seee 1 1 near;", 0, 1}, {"see 1 1 near see", 13, 1},
            {"see 1 1 near,", 12, 1}, {"see 1 1,;", 8, 1}, {"see 1 1,near;", 8, 1}, {"see 1 1 1 near;", 8, 1},
            {"see 1 1 0", 8, 1}, {"see 1 1;", 7, 1}, {"see 1 \n ", 8, 1}, {"  ", 2, 0}, {"see   100 1 near;", 6, 1},
            {"see 1 1234 near;", 6, 1}, {"see 000 1 near;", 4, 1}, {"aaaaaaa", 0, 1}, {"\u0000", 0, 1},
            {"see 1\u00ff1", 5, 1}, {"see 1 1 n;", 8, 1}, {"see 1 1 near;near", 13, 1}, {"see-1 1 near;", 3, 1},
            {"see 0 1 near;", 4, 2}, {"see 1 0 near;", 6, 2}, {"see 00 1 near;", 4, 2}, {"see 0", 4, 2},
            {"see 1 1,2 0", 10, 2}, {"see 1 1,1 1,1 1,1 1,", 19, 3}, {"see 1 1,1 1,1 1,1 1,0 0", 19, 3},
            {"see 1 1 near;see 1 1 near;", 21, 3}, {"see 1 1 near;see 01 1stay", 21, 3},
            {"see 1 1 near;see 1 1;", 20, 1}, {"see 1 1 nearz;", 8, 1}, {"see 1 1 neara;", 8, 1},
            {"tee 1 1 near;", 0, 1}, {"see 1 1 dear;", 8, 1},
            {"see 1 1 car;", 8, 1}, {"see 1 1 slay;", 8, 1}, {"z", 0, 1}, {"a", 0, 1},
            {"see 1 1,2 1 far;see 1 1,2 1 far;", 28, 3}};
        for (Object[] one : faults) {
            RingCrowd x = new RingCrowd(5);
            int place = (Integer) one[1];
            int number = (Integer) one[2];
            due((String) one[0], read(x, (String) one[0]), number == 0 ? 0 : -1000100 - place);
            due("fault() of " + one[0], x.fault(), number);
            due("the tape is empty", x.count(6), 0);
            due("no rules", x.count(3), 0);
        }
    }

    private static void textLimits() {
        promise = "12 rules, limits";
        StringBuilder text = new StringBuilder();
        for (int i = 0; i < 30; i++) {
            text.append("see").append(10 + i).append(" 1far;");
        }
        RingCrowd x = new RingCrowd(9);
        due("thirty", read(x, text.toString()), 30);
        due("thirty are held", x.count(3), 30);
        due("the 31st", read(x, text + "\n see50 1far;"), -1000100 - 332);
        due("its fault", x.fault(), 3);
        due("thirty stay", x.count(3), 30);
        due("'near' in place of a 31st 'see'", read(x, text + "near"), -1000100 - 330);
        due("its fault", x.fault(), 1);
        x.robot(2);
        with(x, text.substring(0, 29 * 11) + "see 9 1near;");
        due("the last of thirty is found", x.does(2), 2);
        StringBuilder full = new StringBuilder("see 9 1far;");
        while (full.length() < 400) {
            full.append(' ');
        }
        due("a full tape", read(x, full.toString()), 1);
        full.setCharAt(399, '!');
        due("a fault at its last byte", read(x, full.toString()), -1000100 - 399);
        full.setLength(395);
        due("the end of a full tape", read(x, full + "see 1"), -1000100 - 400);
    }

    private static void faults() {
        promise = "13 fault";
        RingCrowd x = new RingCrowd(5);
        due("before one", x.fault(), 0);
        read(x, "see 1 1 near;");
        due("no fault yet", x.fault(), 0);
        read(x, "see 0 1 near;");
        due("2", x.fault(), 2);
        read(x, "see 1 1 near;");
        due("the latest one stays told", x.fault(), 2);
        read(x, "see 1 1 near;see 1 1 near;");
        due("3", x.fault(), 3);
        read(x, "!");
        due("1", x.fault(), 1);
    }

    private static final String NEARER = "see 1 1,6 1 near;see 2 1,5 1 near;see 3 1,4 1 near;";

    private static void proving() {
        promise = "14 proves";
        RingCrowd x = with(crowd(7, 0, 3), NEARER);
        proofs("one by one, together", x, 1, 0, 1, 4, 1, 0, 3);
        proofs("at once they change places for ever", x, 0, 0, 0, 2, 0, 0, NONE);
        proofs("any, together", x, 2, 0, 0, 4, 1, 0, NONE);
        proofs("one by one, side by side", x, 1, 2, 1, 3, 1, 0, 2);
        proofs("at once, side by side", x, 0, 2, 1, 2, 1, 0, 1);
        proofs("any, side by side: they may meet", x, 2, 2, 0, 4, 1, 1, NONE);
        proofs("a start of the goal", x, 2, 1, 1, 1, 1, 0, 0);
        places("the crowd stays", x, 1, 0, 0, 1, 0, 0, 0);
        x = crowd(7, 0, 1);
        proofs("nobody goes", x, 0, 0, 0, 1, 0, 1, NONE);
        proofs("nobody has to go", x, 0, 2, 1, 1, 1, 0, 0);
        x = with(crowd(5, 0, 0), "see 5 2 near;");
        proofs("either, each by itself, at once", x, 0, 2, 0, 2, 0, 1, NONE);
        proofs("a goal that may be missed for ever", x, 0, 1, 0, 2, 1, 0, NONE);
        proofs("either, one", x, 1, 2, 1, 2, 1, 0, 1);
        proofs("either, any", x, 2, 2, 0, 3, 1, 1, NONE);
        x = with(crowd(9, 0, 0, 0, 0), "see 9 4 near;");
        proofs("four at once", x, 0, 1, 0, 3, 0, 2, NONE);
        proofs("four, one", x, 1, 1, 0, 2, 0, 1, NONE);
        proofs("four, any", x, 2, 1, 0, 7, 0, 6, NONE);
        x = with(crowd(6, 0, 3), "see 3 1,3 1 near;see 1 1,5 1 near;see 2 1,4 1 near;");
        proofs("before", x, 1, 0, 1, 4, 1, 0, 3);
        with(x, "see 3 1,3 1 near;");
        proofs("other rules", x, 1, 0, 0, 2, 0, 1, NONE);
        read(x, "see 3 1,3 1 near;see 2 1,4 1 near;see");
        proofs("a text with a fault", x, 1, 0, 0, 2, 0, 1, NONE);
        for (int waking = 0; waking < 3; waking++) {
            with(x, "see 3 1,3 1 near;");
            due("they may go", x.proves(waking, 0, 1), waking == 2 ? 3 : 2);
            x.rules();
            proofs("without rules", x, waking, 0, 0, 1, 0, 1, NONE);
        }
        with(x, "see 3 1,3 1 near;");
        x.robot(0);
        proofs("another number of robots", x, 1, 0, 0, 1, 0, 1, NONE);
        x.wipe();
        x.robot(5);
        proofs("one robot", x, 1, 0, 1, 1, 1, 0, 0);
    }

    private static void provingRefusals() {
        promise = "14 proves, 15 starts: refusals";
        RingCrowd none = new RingCrowd(5);
        RingCrowd x = crowd(5, 1);
        int[] bad = {-1, 3, Integer.MIN_VALUE, Integer.MAX_VALUE};
        RingCrowd[] both = {none, x};
        for (RingCrowd one : both) {
            for (int number : bad) {
                due("waking " + number, one.proves(number, 0, 0), BAD);
                due("goal " + number, one.proves(0, number, 0), BAD);
                due("waking " + number, one.starts(number, 0, 0), BAD);
                due("goal " + number, one.starts(0, number, 0), BAD);
            }
            due("proves what 5", one.proves(0, 0, 5), BAD);
            due("proves what -1", one.proves(0, 0, -1), BAD);
            due("starts what 2", one.starts(0, 0, 2), BAD);
            due("starts what -1", one.starts(0, 0, -1), BAD);
        }
        for (int what = 0; what < 5; what++) {
            due("proves without robots", none.proves(2, 2, what), STATE);
        }
        due("starts without robots", none.starts(0, 0, 0), STATE);
        due("starts without robots", none.starts(2, 2, 1), STATE);
    }

    private static void starting() {
        promise = "15 starts";
        int[][] many = {
            // n, then of 1, 2, 3, 4 robots
            {3, 1, 2, 3, 4}, {4, 1, 3, 4, 8}, {5, 1, 3, 5, 10}, {6, 1, 4, 7, 16}, {7, 1, 4, 8, 20}, {8, 1, 5, 10, 29},
            {9, 1, 5, 12, 35}};
        for (int[] row : many) {
            RingCrowd x = new RingCrowd(row[0]);
            for (int k = 1; k <= 4; k++) {
                x.robot(k % row[0]);
                due("of " + k + " on " + row[0], x.starts(k % 3, 0, 0), row[k]);
            }
        }
        RingCrowd x = with(crowd(7, 0, 3), NEARER);
        due("one by one, together", x.starts(1, 0, 1), 4);
        due("at once, together", x.starts(0, 0, 1), 2);
        due("any, together", x.starts(2, 0, 1), 1);
        due("at once, side by side", x.starts(0, 2, 1), 2);
        due("spread alone", x.starts(2, 1, 1), 1);
        due("two names are spread", crowd(6, 0, 0, 0, 0).starts(0, 1, 1), 2);
        due("a goal that no crowd is of", crowd(3, 0, 0, 1, 2).starts(1, 1, 1), 0);
    }

    private static void kinds() {
        promise = "16 kind";
        due("one", crowd(5, 2).kind(), 1);
        due("two", crowd(9, 0, 4).kind(), 1);
        due("two opposite", crowd(8, 1, 5).kind(), 2);
        due("three", crowd(9, 0, 3, 6).kind(), 2);
        due("two and two", crowd(6, 0, 0, 3, 3).kind(), 2);
        due("two and one opposite", crowd(6, 0, 0, 3).kind(), 1);
        due("two and one beside", crowd(7, 0, 0, 1).kind(), 3);
        due("four", crowd(9, 0, 1, 3, 6).kind(), 3);
        due("a mirror between places", crowd(9, 0, 1).kind(), 1);
        due("a full ring", crowd(3, 0, 1, 2).kind(), 2);
        due("no robots", new RingCrowd(5).kind(), STATE);
    }

    private static void asKinds() {
        promise = "17 as";
        RingCrowd[] told = {null, crowd(9, 0, 4), crowd(9, 0, 3, 6), crowd(9, 0, 1, 3, 6)};
        for (int is = 1; is <= 3; is++) {
            due("as 0", told[is].as(0), is + 1);
            for (int kind = 1; kind <= 3; kind++) {
                due("as " + kind + ", it is " + is, told[is].as(kind), kind == is ? is + 1 : KIND);
            }
            due("as 4", told[is].as(4), BAD);
            due("as -1", told[is].as(-1), BAD);
        }
        RingCrowd none = new RingCrowd(5);
        due("no robots", none.as(0), STATE);
        due("no robots", none.as(3), STATE);
        for (int kind : WRONG) {
            due("as " + kind, none.as(kind), BAD);
        }
    }

    private static void asking() {
        promise = "18 ask, 19 trace";
        RingCrowd x = crowd(9, 0, 4);
        due("SIZE of EVEN", x.ask(0), 11);
        traces("SIZE of EVEN", x, 11, 10);
        due("MARK of EVEN", x.ask(1), 2);
        traces("MARK of EVEN", x, 20);
        x = crowd(9, 0, 3, 6);
        due("SIZE of ROUND", x.ask(0), 6);
        traces("SIZE of ROUND", x, 12, 10);
        due("MARK of ROUND", x.ask(1), 9);
        traces("MARK of ROUND", x, 21, 20, 12, 10);
        x = crowd(7, 0, 0, 1);
        due("SIZE of RIGID", x.ask(0), 6);
        traces("SIZE of RIGID", x, 13, 10);
        due("MARK of RIGID", x.ask(1), 102);
        traces("MARK of RIGID", x, 22, 20);
        x = crowd(6, 0, 0, 3, 3);
        due("SIZE of two and two", x.ask(0), 6);
        due("MARK of two and two", x.ask(1), 8);
        due("ask 2", x.ask(2), BAD);
        for (int what : WRONG) {
            due("ask " + what, x.ask(what), BAD);
        }
        traces("a BAD ask leaves it", x, 21, 20, 12, 10);
        x.wipe();
        due("no robots", x.ask(0), STATE);
        due("BAD goes first", x.ask(2), BAD);
        traces("refused asks leave it", x, 21, 20, 12, 10);
    }

    private static void tracing() {
        promise = "19 trace";
        RingCrowd x = crowd(5, 0);
        due("empty", x.trace(0), NONE);
        x.ask(0);
        due("1", x.trace(1), 10);
        due("2", x.trace(2), NONE);
        due("16", x.trace(16), NONE);
        for (int i : WRONG) {
            due("trace(" + i + ")", x.trace(i), NONE);
        }
        x.robot(0);
        x.step();
        traces("other calls leave it", x, 11, 10);
    }

    private static String all(RingCrowd x) {
        StringBuilder told = new StringBuilder();
        for (int place = 0; place < 9; place++) {
            told.append(x.at(place)).append(' ').append(x.view(place, 0)).append(' ').append(x.does(place)).append(' ');
        }
        for (int i = 0; i < 7; i++) {
            told.append(x.count(i)).append(' ').append(x.trace(i)).append(' ');
        }
        return told.append(x.fault()).toString();
    }

    private static void refusalsChangeNothing() {
        promise = "what is refused changes nothing";
        RingCrowd x = with(crowd(8, 0, 1, 3, 3), "see 1 1,2 2,5 1 near;");
        read(x, "see 0");
        x.ask(1);
        feedAll(x, "see 1");
        String before = all(x);
        int refused = 0;
        int[] answers = {x.robot(0), x.robot(8), x.at(9), x.view(-1, 0), x.does(8), x.name(8), x.goal(3), x.go(8, 1),
            x.go(7, 1), x.go(3, 1), x.feed(0, 0), x.feed(0, 9), x.proves(3, 0, 0), x.starts(0, 0, 2), x.as(4),
            x.as(1), x.as(2), x.ask(2), x.ask(-1), x.count(7)};
        for (int answer : answers) {
            refused += answer < NONE ? 1 : 0;
        }
        due("all are refused", refused, answers.length);
        due("nothing has changed", all(x).equals(before) ? 1 : 0, 1);
        RingCrowd none = new RingCrowd(8);
        before = all(none);
        int[] without = {none.step(), none.go(0, 1), none.proves(0, 0, 0), none.starts(0, 0, 0), none.kind(),
            none.as(0), none.ask(0)};
        for (int answer : without) {
            due("no robots", answer, STATE);
        }
        due("nothing has changed without robots", all(none).equals(before) ? 1 : 0, 1);
    }
}

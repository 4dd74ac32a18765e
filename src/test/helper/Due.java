import java.util.ArrayList;
import java.util.List;
import java.util.function.Supplier;
import java.util.function.ToIntFunction;

/** What the tests by sentences have in common: answers that are due, objects in a known state, and all these tell. */
final class Due {
    static final int NONE = -1000000, BAD = -1000001, STATE = -1000002, FULL = -1000003, KIND = -1000004;
    static final int LEAST = Integer.MIN_VALUE, GREATEST = Integer.MAX_VALUE;

    /** Views of the busy crowd: that of the robot at 0 (goes up), at 1 (told to stay), and of both at 3 (no rule). */
    static final String BUSY_RULES = "see 1 1,2 2,5 1 near;see 1 1,5 2,2 1 stay;";
    static final String BUSY_TAPE = "see 2 1,1 1,5 2 far;";

    private static int wrong = 0;
    private static int asked = 0;
    private static String sentence = "";

    private Due() {
    }

    /** The sentence of the document that the answers to come are due by. */
    static void says(String text) {
        sentence = text;
    }

    static void due(String what, long got, long want) {
        asked++;
        if (got != want) {
            wrong++;
            System.out.println("[" + sentence + "] " + what + " answered " + got + ", due is " + want);
        }
    }

    static void holds(String what, boolean held) {
        asked++;
        if (!held) {
            wrong++;
            System.out.println("[" + sentence + "] does not hold: " + what);
        }
    }

    static void end(String test) {
        System.out.println(test + ": " + asked + " answers, " + wrong + " not as due");
        if (wrong != 0 || asked == 0) {
            System.exit(1);
        }
    }

    static RingCrowd crowd(int n, int... places) {
        RingCrowd x = new RingCrowd(n);
        for (int place : places) {
            x.robot(place);
        }
        return x;
    }

    /** Feeds a text by eights, so that an object's 512 calls last. */
    static int feed(RingCrowd x, String text) {
        int answer = x.count(6);
        for (int from = 0; from < text.length(); from += 8) {
            int many = Math.min(8, text.length() - from);
            answer = x.feed(word(text.substring(from, from + many)), many);
        }
        return answer;
    }

    static long word(String bytes) {
        long w = 0;
        for (int i = 0; i < bytes.length(); i++) {
            w = (w << 8) | (bytes.charAt(i) & 255);
        }
        return w;
    }

    static int read(RingCrowd x, String text) {
        feed(x, text);
        return x.rules();
    }

    static RingCrowd ruled(RingCrowd x, String text) {
        int answer = read(x, text);
        holds("the test's own rules " + text, answer >= 0);
        return x;
    }

    static RingCrowd ruled(String text, int n, int... places) {
        return ruled(crowd(n, places), text);
    }

    static String blanks(int many) {
        return " ".repeat(Math.max(0, many));
    }

    /** As many short rules of differing rows as wanted, 11 bytes each: none is for a view that a ring of 9 has. */
    static String manyRules(int many) {
        StringBuilder text = new StringBuilder();
        for (int i = 0; i < many; i++) {
            text.append("see").append(10 + i).append(" 1far;");
        }
        return text.toString();
    }

    /** Four robots, two rules, a fault that was told, a trace, and a text on the tape that is not read yet. */
    static RingCrowd busy() {
        RingCrowd x = ruled(BUSY_RULES, 8, 0, 1, 3, 3);
        read(x, "see 0");
        x.ask(1);
        feed(x, BUSY_TAPE);
        return x;
    }

    static RingCrowd busyWithout() {
        RingCrowd x = busy();
        x.wipe();
        return x;
    }

    /** Two robots that close up one by one and then stay, short of one place: three crowds, none of them together. */
    static RingCrowd provable() {
        return ruled("see 3 1,4 1 near;see 2 1,5 1 near;", 7, 0, 3);
    }

    static RingCrowd busyWithTape(int length) {
        RingCrowd x = busy();
        feed(x, blanks(length - BUSY_TAPE.length()));
        return x;
    }

    /** Refused, and nothing has changed: all that the object can tell is what one tells that was not asked so. */
    static void refused(String call, Supplier<RingCrowd> made, ToIntFunction<RingCrowd> by, int answer) {
        leaves(call, made, by, answer);
        holds(call + " is a refusal", answer <= BAD && answer >= KIND);
    }

    static void leaves(String call, Supplier<RingCrowd> made, ToIntFunction<RingCrowd> by, int answer) {
        RingCrowd x = made.get();
        due(call, by.applyAsInt(x), answer);
        List<Integer> after = told(x);
        List<Integer> before = told(made.get());
        holds(call + " leaves all as it is", after.equals(before));
    }

    /** All that an object can tell; it is used up then, since only reading shows what is on the tape. */
    static List<Integer> told(RingCrowd x) {
        List<Integer> all = new ArrayList<>(toldOfCrowd(x));
        all.addAll(toldOfTrace(x));
        all.add(x.fault());
        all.add(x.count(6));
        all.add(x.rules());
        all.add(x.fault());
        all.addAll(toldOfCrowd(x));
        for (int robots = 0; robots < 5; robots++) {
            all.add(x.robot(0));
        }
        return all;
    }

    /** The crowd, what it sees and does, and what is proved of it: rules show in this, too. */
    static List<Integer> toldOfCrowd(RingCrowd x) {
        List<Integer> all = new ArrayList<>();
        for (int what = 0; what < 6; what++) {
            all.add(x.count(what));
        }
        for (int place = 0; place < x.count(0); place++) {
            all.add(x.at(place));
            all.add(x.does(place));
            all.add(x.name(place));
            for (int i = 0; i < 8 && x.at(place) > 0; i++) {
                all.add(x.view(place, i));
            }
        }
        for (int waking = 0; waking < 3; waking++) {
            for (int what = 1; what < 5; what++) {
                all.add(x.proves(waking, 0, what));
            }
            all.add(x.starts(waking, 2, 1));
        }
        all.add(x.kind());
        return all;
    }

    static List<Integer> toldOfTrace(RingCrowd x) {
        List<Integer> all = new ArrayList<>();
        for (int i = 0; i <= 16; i++) {
            all.add(x.trace(i));
        }
        return all;
    }

    static void rowIs(String what, RingCrowd x, int place, int... want) {
        for (int i = 0; i < want.length; i++) {
            due(what + ": view(" + place + ", " + i + ")", x.view(place, i), want[i]);
        }
        due(what + ": behind the view of " + place, x.view(place, want.length), NONE);
    }

    static void placesAre(String what, RingCrowd x, int... want) {
        for (int place = 0; place < want.length; place++) {
            due(what + ": at(" + place + ")", x.at(place), want[place]);
        }
    }

    static void nameIs(String what, RingCrowd x, int... want) {
        for (int place = 0; place < want.length; place++) {
            due(what + ": name(" + place + ")", x.name(place), want[place]);
        }
    }

    static void traceIs(String what, RingCrowd x, int... want) {
        for (int i = 0; i < want.length; i++) {
            due(what + ": trace(" + i + ")", x.trace(i), want[i]);
        }
        for (int i = want.length; i <= 16; i++) {
            due(what + ": behind the trace, " + i, x.trace(i), NONE);
        }
    }

    /** WORKS, how many are come to, of these of the goal, stuck elsewhere, MOST. */
    static void provedIs(String what, RingCrowd x, int waking, int goal, int... want) {
        for (int i = 0; i < want.length; i++) {
            due(what + ": proves(" + waking + ", " + goal + ", " + i + ")", x.proves(waking, goal, i), want[i]);
        }
    }

    /** A text that has a fault: its number and its place; the tape is empty then. */
    static void faultIs(String text, int number, int place) {
        RingCrowd x = new RingCrowd(9);
        due("rules() of '" + text + "'", read(x, text), -1000100 - place);
        due("fault() of '" + text + "'", x.fault(), number);
        due("count(6) behind '" + text + "'", x.count(6), 0);
        due("count(3) behind '" + text + "'", x.count(3), 0);
    }

    static void rulesAre(String text, int many) {
        RingCrowd x = new RingCrowd(9);
        due("rules() of '" + text + "'", read(x, text), many);
        due("fault() of '" + text + "'", x.fault(), 0);
        due("count(3) behind '" + text + "'", x.count(3), many);
    }
}

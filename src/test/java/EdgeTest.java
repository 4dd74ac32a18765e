import java.util.Arrays;
import java.util.List;
import java.util.function.Supplier;
import java.util.function.ToIntBiFunction;
import java.util.function.ToIntFunction;

/**
 * Promises 1 to 20, sentence by sentence: the boundary cases that each names (too small, too large, empty, full, round
 * over the last place, refused), and that what is refused changes nothing.
 */
public final class EdgeTest {
    private static final int NONE = Due.NONE, BAD = Due.BAD, STATE = Due.STATE, FULL = Due.FULL, KIND = Due.KIND;
    private static final int LEAST = Due.LEAST, GREATEST = Due.GREATEST;

    public static void main(String[] args) {
        changesAreSeen();
        aNewObject();
        robot();
        wipe();
        at();
        view();
        does();
        name();
        goal();
        step();
        go();
        nobodyGoes();
        feedNumbers();
        feedBytes();
        feedFull();
        rules();
        rulesWithFault();
        fault();
        proves();
        provesRefused();
        starts();
        startsRefused();
        kind();
        as();
        ask();
        trace();
        count();
        changesStayWithin();
        fiveHundredAndTwelveCalls();
        Due.end("EdgeTest");
    }

    /** That nothing has changed is only shown by tellings in which each change would be seen. */
    private static void changesAreSeen() {
        Due.says("the test itself");
        List<Integer> without = Due.told(Due.busyWithout());
        RingCrowd fewer = Due.busyWithout();
        fewer.robot(7);
        Due.holds("a robot is seen", !Due.told(fewer).equals(without));
        seen("wipe()", RingCrowd::wipe);
        seen("step()", RingCrowd::step);
        seen("go(0, 1)", x -> x.go(0, 1));
        seen("feed(32, 1)", x -> x.feed(32, 1));
        seen("rules()", RingCrowd::rules);
        seen("ask(0)", x -> x.ask(0));
        seen("a fault", x -> Due.read(x, "!"));
    }

    private static void seen(String call, ToIntFunction<RingCrowd> by) {
        RingCrowd x = Due.busy();
        by.applyAsInt(x);
        Due.holds(call + " is seen", !Due.told(x).equals(Due.told(Due.busy())));
    }

    private static void aNewObject() {
        Due.says("1: A RING of n places (below 3: 3, above 9: 9)");
        int[][] sizes = {{LEAST, 3}, {-1, 3}, {0, 3}, {1, 3}, {2, 3}, {3, 3}, {4, 4}, {8, 8}, {9, 9}, {10, 9},
            {GREATEST, 9}};
        for (int[] size : sizes) {
            RingCrowd x = new RingCrowd(size[0]);
            Due.due("n of " + size[0], x.count(0), size[1]);
            Due.due("the last place of " + size[0], x.robot(size[1] - 1), 1);
            Due.due("a place more of " + size[0], x.robot(size[1]), BAD);
        }
        Due.says("1: no ROBOTS, no RULES");
        for (int n = 2; n <= 10; n++) {
            RingCrowd x = new RingCrowd(n);
            for (int what = 1; what <= 3; what++) {
                Due.due("count(" + what + ")", x.count(what), 0);
            }
            Due.due("a tape without bytes", x.count(6), 0);
            Due.due("no fault", x.fault(), 0);
            Due.traceIs("no trace", x);
            Due.due("no rules to go by", Due.crowd(n, 0).does(0), 0);
        }
        Due.says("1: objects have nothing in common");
        RingCrowd other = Due.busy();
        RingCrowd fresh = new RingCrowd(8);
        Due.due("robots of another", fresh.count(1), 0);
        Due.due("rules of another", fresh.count(3), 0);
        Due.due("the other's robots", other.count(1), 4);
    }

    /** A ring of 8 has no such places. */
    private static void noPlaces(String call, Supplier<RingCrowd> made, ToIntBiFunction<RingCrowd, Integer> by) {
        for (int place : new int[] {LEAST, -8, -1, 8, 9, 16, GREATEST}) {
            Due.refused(call + " at " + place, made, x -> by.applyAsInt(x, place), BAD);
        }
    }

    private static void robot() {
        Due.says("2: A ROBOT more at a place: how many there are");
        RingCrowd x = new RingCrowd(3);
        Due.due("the first, at the last place", x.robot(2), 1);
        Due.due("the second, at the first place", x.robot(0), 2);
        Due.due("the third, where one is", x.robot(2), 3);
        Due.due("the fourth", x.robot(2), 4);
        Due.placesAre("then", x, 1, 0, 3);
        Due.says("2: BAD");
        noPlaces("robot", Due::busy, RingCrowd::robot);
        noPlaces("robot", Due::busyWithout, RingCrowd::robot);
        Due.says("2: FULL: 4");
        for (int place = 0; place < 8; place++) {
            int at = place;
            Due.refused("a fifth at " + place, Due::busy, y -> y.robot(at), FULL);
        }
        RingCrowd again = Due.busy();
        again.robot(0);
        again.wipe();
        for (int k = 1; k <= 4; k++) {
            Due.due("robot " + k + " behind a wipe", again.robot(7), k);
        }
        Due.due("a fifth behind a wipe", again.robot(7), FULL);
    }

    private static void wipe() {
        Due.says("3: All ROBOTS go off: how many there were");
        for (int k = 0; k <= 4; k++) {
            RingCrowd x = Due.crowd(9, Arrays.copyOf(new int[] {0, 8, 8, 4}, k));
            Due.due("wipe() of " + k, x.wipe(), k);
            Due.placesAre("then", x, 0, 0, 0, 0, 0, 0, 0, 0, 0);
            Due.due("robots then", x.count(1), 0);
            Due.due("wipe() again", x.wipe(), 0);
        }
    }

    private static void at() {
        Due.says("4: How many ROBOTS are at a place");
        RingCrowd x = Due.crowd(9, 8, 8, 8, 0);
        Due.placesAre("of four", x, 1, 0, 0, 0, 0, 0, 0, 0, 3);
        Due.leaves("at(3)", Due::busy, y -> y.at(3), 2);
        Due.says("4: BAD");
        noPlaces("at", Due::busy, RingCrowd::at);
        noPlaces("at without robots", Due::busyWithout, RingCrowd::at);
    }

    private static void view() {
        Due.says("5: ITEM i of the VIEW of the ROBOTS at a place (gap, number, ..)");
        Due.rowIs("the longest view", Due.crowd(9, 0, 1, 3, 6), 0, 1, 1, 2, 1, 3, 1, 3, 1);
        Due.rowIs("of three places", Due.busy(), 3, 2, 1, 1, 1, 5, 2);
        Due.rowIs("of two places", Due.crowd(3, 0, 2), 0, 1, 1, 2, 1);
        Due.rowIs("the shortest view", Due.crowd(3, 1), 1, 3, 1);
        Due.says("5: NONE: there are not so many (i below 0, too), or no ROBOT is there");
        for (int i : new int[] {LEAST, -2, -1, 6, 7, 8, 9, 32, 63, 64, GREATEST}) {
            Due.leaves("view(3, " + i + ")", Due::busy, x -> x.view(3, i), NONE);
        }
        for (int i : new int[] {LEAST, -1, 0, 1, GREATEST}) {
            Due.leaves("view(2, " + i + ")", Due::busy, x -> x.view(2, i), NONE);
            Due.leaves("view(3, " + i + ") without robots", Due::busyWithout, x -> x.view(3, i), NONE);
        }
        Due.due("item 8 of the longest", Due.crowd(9, 0, 1, 3, 6).view(0, 8), NONE);
        Due.due("item -1 of the longest", Due.crowd(9, 0, 1, 3, 6).view(0, -1), NONE);
        Due.says("5: BAD");
        noPlaces("view, item 0", Due::busy, (x, place) -> x.view(place, 0));
        noPlaces("view, item -1", Due::busyWithout, (x, place) -> x.view(place, -1));
    }

    private static void does() {
        Due.says("6: -1, 1: a place down, up; 2: either; 0: they stay");
        Due.leaves("up", Due::busy, x -> x.does(0), 1);
        Due.due("down over the seam", Due.ruled("see 1 1,4 1 near;", 5, 0, 4).does(0), -1);
        Due.due("up over the seam", Due.ruled("see 1 1,4 1 near;", 5, 0, 4).does(4), 1);
        Due.leaves("told to stay", Due::busy, x -> x.does(1), 0);
        Due.leaves("no rule", Due::busy, x -> x.does(3), 0);
        Due.due("either", Due.ruled("see 4 1,4 1 far;", 8, 0, 4).does(4), 2);
        Due.says("6: NONE: there are none");
        Due.leaves("does(7)", Due::busy, x -> x.does(7), NONE);
        Due.leaves("does(0) without robots", Due::busyWithout, x -> x.does(0), NONE);
        Due.says("6: BAD");
        noPlaces("does", Due::busy, RingCrowd::does);
        noPlaces("does without robots", Due::busyWithout, RingCrowd::does);
    }

    private static void name() {
        Due.says("7: How many ROBOTS the NAME of the CROWD has at a place");
        Due.nameIs("of four", Due.busy(), 2, 0, 1, 1, 0, 0, 0, 0);
        Due.nameIs("without robots", Due.busyWithout(), 0, 0, 0, 0, 0, 0, 0, 0);
        Due.leaves("name(3)", Due::busy, x -> x.name(3), 1);
        Due.says("7: BAD");
        noPlaces("name", Due::busy, RingCrowd::name);
        noPlaces("name without robots", Due::busyWithout, RingCrowd::name);
    }

    private static void goal() {
        Due.says("8: Whether the CROWD is of a GOAL (0 .. 2): 1, 0");
        for (int goal = 0; goal < 3; goal++) {
            int of = goal;
            Due.due("one robot is of goal " + goal, Due.crowd(9, 8).goal(goal), 1);
            Due.leaves("goal(" + goal + ")", Due::busy, x -> x.goal(of), 0);
        }
        Due.says("8: without ROBOTS 0");
        for (int goal = 0; goal < 3; goal++) {
            int of = goal;
            Due.due("a new object, goal " + goal, new RingCrowd(3).goal(goal), 0);
            Due.leaves("goal(" + goal + ") without robots", Due::busyWithout, x -> x.goal(of), 0);
        }
        Due.says("8: BAD");
        for (int goal : new int[] {LEAST, -1, 3, 4, GREATEST}) {
            Due.refused("goal(" + goal + ")", Due::busy, x -> x.goal(goal), BAD);
            Due.refused("goal(" + goal + ") without robots", Due::busyWithout, x -> x.goal(goal), BAD);
        }
    }

    private static void step() {
        Due.says("9: A STEP by WAKING 0: how many moved");
        RingCrowd x = Due.busy();
        Due.due("one of four moves", x.step(), 1);
        Due.placesAre("onto another", x, 0, 2, 0, 2, 0, 0, 0, 0);
        RingCrowd both = Due.ruled("see 2 1,5 1 near;", 7, 6, 1);
        Due.due("both at once, one over the seam", both.step(), 2);
        Due.placesAre("they meet at 0", both, 2, 0, 0, 0, 0, 0, 0);
        RingCrowd swap = Due.ruled("see 1 1,6 1 near;", 7, 6, 0);
        Due.due("they change places", swap.step(), 2);
        Due.placesAre("as before", swap, 1, 0, 0, 0, 0, 0, 1);
        RingCrowd follow = Due.ruled("see 1 1,2 1,6 1far;see 1 1,6 1,2 1near;see 2 1,1 1,6 1near;", 9, 0, 1, 3);
        Due.due("by what they saw ahead of it", follow.step(), 3);
        Due.placesAre("all three went down", follow, 1, 0, 1, 0, 0, 0, 0, 0, 1);
        Due.says("9: those that go either way go up");
        RingCrowd up = Due.ruled("see 4 2,4 2 near;", 8, 7, 7, 3, 3);
        Due.due("all four", up.step(), 4);
        Due.placesAre("over the seam", up, 2, 0, 0, 0, 2, 0, 0, 0);
        RingCrowd far = Due.ruled("see 3 1 far;", 3, 2);
        Due.due("far is up, too", far.step(), 1);
        Due.placesAre("over the seam", far, 1, 0, 0);
        Due.says("9: none moved is no refusal");
        RingCrowd still = Due.crowd(5, 0, 2);
        Due.due("no rules", still.step(), 0);
        Due.placesAre("as before", still, 1, 0, 1, 0, 0);
        Due.says("9: STATE: no ROBOTS");
        Due.refused("step()", Due::busyWithout, RingCrowd::step, STATE);
        Due.due("a new object", new RingCrowd(9).step(), STATE);
    }

    private static void go() {
        Due.says("10: A STEP: one ROBOT at a place goes (by what it does): 1");
        RingCrowd x = Due.ruled("see 3 1,3 2 near;see 3 2,3 1 stay;", 6, 5, 5, 2);
        Due.due("one of two at a place", x.go(5, 1), 1);
        Due.placesAre("one of both went", x, 1, 0, 1, 0, 0, 1);
        for (int way : new int[] {LEAST, -1, 0, 1, 2, GREATEST}) {
            RingCrowd up = Due.busy();
            Due.due("up, whatever way is: " + way, up.go(0, way), 1);
            Due.placesAre("went up", up, 0, 2, 0, 2);
        }
        Due.says("10: either: up, if way is 1, else down");
        for (int way : new int[] {LEAST, -1, 0, 1, 2, 3, GREATEST}) {
            RingCrowd either = Due.ruled("see 5 1 near;", 5, 4);
            Due.due("go(4, " + way + ")", either.go(4, way), 1);
            Due.due("is it at 0, way " + way, either.at(0), way == 1 ? 1 : 0);
            Due.due("is it at 3, way " + way, either.at(3), way == 1 ? 0 : 1);
        }
        RingCrowd down = Due.ruled("see 5 1 near;", 5, 0);
        Due.due("down from 0", down.go(0, -1), 1);
        Due.due("over the seam", down.at(4), 1);
        Due.says("10: BAD");
        noPlaces("go", Due::busy, (y, place) -> y.go(place, 1));
        noPlaces("go without robots", Due::busyWithout, (y, place) -> y.go(place, 0));
        Due.says("10: STATE: none is there, or it stays");
        for (int way = -1; way <= 2; way++) {
            int by = way;
            Due.refused("none is at 2", Due::busy, y -> y.go(2, by), STATE);
            Due.refused("none is at 0", Due::busyWithout, y -> y.go(0, by), STATE);
            Due.refused("it is told to stay", Due::busy, y -> y.go(1, by), STATE);
            Due.refused("it has no rule", Due::busy, y -> y.go(3, by), STATE);
        }
    }

    /** A row that is met from a place without robots is nobody's view, though a rule may have it. */
    private static void nobodyGoes() {
        Supplier<RingCrowd> made = () -> Due.ruled("see 1 1,3 1 near;see 2 1,3 1 stay;", 5, 1, 3);
        Due.says("6: NONE: there are none, whatever the rules say");
        Due.leaves("does(2)", made, x -> x.does(2), NONE);
        Due.says("9: how many moved: none but ROBOTS");
        Due.leaves("step()", made, RingCrowd::step, 0);
        Due.says("10: STATE: none is there, whatever the rules say");
        Due.refused("go(2, 1)", made, x -> x.go(2, 1), STATE);
        Due.refused("go(2, 0)", made, x -> x.go(2, 0), STATE);
        Due.says("14: no STEP leads on: none but ROBOTS go");
        for (int waking = 0; waking < 3; waking++) {
            Due.provedIs("nobody goes", made.get(), waking, 0, 0, 1, 0, 1, NONE);
            Due.due("starts", made.get().starts(waking, 0, 1), 1);
        }
    }

    private static void feedNumbers() {
        Due.says("11: The lowest n bytes of w (1 to 8): how many it has");
        RingCrowd x = new RingCrowd(9);
        int has = 0;
        for (int n = 1; n <= 8; n++) {
            has += n;
            Due.due("feed by " + n, x.feed(-1, n), has);
            Due.due("count(6)", x.count(6), has);
        }
        Due.says("11: BAD: n");
        for (int n : new int[] {LEAST, -8, -1, 0, 9, 10, 16, 400, GREATEST}) {
            Due.refused("feed by " + n, Due::busy, y -> y.feed(Due.word(";;;;;;;;"), n), BAD);
            Due.refused("feed by " + n, Due::busyWithout, y -> y.feed(0, n), BAD);
        }
    }

    private static void feedBytes() {
        Due.says("11: the highest of them first, come behind the tape");
        String text = "see 9 1 near;";
        for (int n = 1; n <= 8; n++) {
            RingCrowd x = Due.crowd(9, 4);
            for (int from = 0; from < text.length(); from += n) {
                int many = Math.min(n, text.length() - from);
                long above = many == 8 ? 0 : 0x2121212121212121L << (8 * many);
                x.feed(above | Due.word(text.substring(from, from + many)), many);
            }
            Due.due("bytes by " + n, x.count(6), text.length());
            Due.due("read by " + n, x.rules(), 1);
            Due.due("does by " + n, x.does(4), 2);
        }
        Due.says("11: a byte is 0 to 255");
        RingCrowd low = new RingCrowd(9);
        low.feed(0x2020202020202000L, 8);
        Due.due("a byte of 0 is no blank", low.rules(), -1000107);
        RingCrowd high = new RingCrowd(9);
        high.feed(0xa020202020202020L, 8);
        Due.due("a byte of 160 is no blank", high.rules(), -1000100);
        RingCrowd top = new RingCrowd(9);
        top.feed(0x208a202020202020L, 8);
        Due.due("a byte of 138 is no blank", top.rules(), -1000101);
    }

    private static void feedFull() {
        Due.says("11: FULL: none comes");
        for (int n = 1; n <= 8; n++) {
            int by = n;
            Due.refused("by " + n + " at 400", () -> Due.busyWithTape(400), x -> x.feed(-1, by), FULL);
            Due.refused("by " + n + ", one too many", () -> Due.busyWithTape(401 - by), x -> x.feed(-1, by), FULL);
        }
        RingCrowd x = Due.busyWithTape(393);
        Due.due("eight are too many", x.feed(-1, 8), FULL);
        Due.due("seven are not", x.feed(Due.word("       "), 7), 400);
        Due.due("the tape is as it was fed", x.rules(), 1);
        Due.due("it is empty then", x.feed(-1, 8), 8);
    }

    private static void rules() {
        Due.says("12: The tape, empty then, is read: how many RULES; they are these");
        RingCrowd x = Due.busy();
        Due.due("one", x.rules(), 1);
        Due.due("the tape is empty", x.count(6), 0);
        Due.due("count(3)", x.count(3), 1);
        Due.due("the one that was read", x.does(3), 1);
        Due.due("not those before", x.does(0), 0);
        Due.due("an empty tape", x.rules(), 0);
        Due.due("no rules then", x.count(3), 0);
        Due.due("nothing to go by", x.does(3), 0);
        Due.due("thirty", Due.read(x, Due.manyRules(30)), 30);
        Due.due("count(3)", x.count(3), 30);
        Due.due("a full tape", Due.read(x, "see 9 1 far;" + Due.blanks(388)), 1);
        Due.due("room for 400 again", Due.feed(x, Due.blanks(400)), 400);
        Due.due("blanks alone", x.rules(), 0);
        Due.says("12: read without ROBOTS, too");
        RingCrowd none = Due.busyWithout();
        Due.due("one", none.rules(), 1);
        Due.due("count(3)", none.count(3), 1);
    }

    private static void rulesWithFault() {
        Due.says("12: -1000100 less the place of a FAULT");
        RingCrowd x = new RingCrowd(9);
        Due.due("at byte 0", Due.read(x, "!"), -1000100);
        Due.due("at byte 1", Due.read(x, " !"), -1000101);
        Due.due("at byte 399", Due.read(x, Due.blanks(399) + "!"), -1000499);
        Due.due("at the end of 400", Due.read(x, Due.blanks(397) + "see"), -1000500);
        Due.says("12: all but the tape, and what fault() tells, stays");
        String[] texts = {"!", "see", "see 0", "see 1 1 near;see 1 1 far;", "see 4 4 near;see 1 1,1 1,1 1,1 1,1 1 far;",
            Due.manyRules(31), Due.manyRules(30) + "!", "see 2 1,1 1,5 2 far;see"};
        int[] numbers = {1, 1, 2, 3, 3, 3, 1, 1};
        for (int i = 0; i < texts.length; i++) {
            RingCrowd y = Due.busy();
            y.rules();
            Due.ruled(y, Due.BUSY_RULES);
            List<Integer> crowd = Due.toldOfCrowd(y);
            List<Integer> trace = Due.toldOfTrace(y);
            Due.holds("a fault in " + texts[i], Due.read(y, texts[i]) <= -1000100);
            Due.due("the tape is empty behind " + texts[i], y.count(6), 0);
            Due.due("the fault of " + texts[i], y.fault(), numbers[i]);
            Due.holds("the crowd and the rules stay behind " + texts[i], crowd.equals(Due.toldOfCrowd(y)));
            Due.holds("the trace stays behind " + texts[i], trace.equals(Due.toldOfTrace(y)));
        }
    }

    private static void fault() {
        Due.says("13: The number of the latest FAULT; 0 before one");
        RingCrowd x = new RingCrowd(5);
        Due.due("a new object", x.fault(), 0);
        Due.due("an empty text", x.rules(), 0);
        Due.due("behind an empty text", x.fault(), 0);
        Due.read(x, "see 1 1 near;");
        Due.due("behind a text without one", x.fault(), 0);
        Due.feed(x, "see 0");
        Due.due("it is not read yet", x.fault(), 0);
        x.rules();
        Due.due("2", x.fault(), 2);
        Due.due("asked again", x.fault(), 2);
        Due.read(x, "see 1 1 near;see 1 1 near;");
        Due.due("3", x.fault(), 3);
        Due.read(x, "!");
        Due.due("1", x.fault(), 1);
        Due.read(x, "see 1 1 near;");
        Due.due("the latest one is still 1", x.fault(), 1);
        x.wipe();
        Due.due("behind a wipe", x.fault(), 1);
        Due.leaves("fault()", Due::busy, RingCrowd::fault, 2);
    }

    private static void proves() {
        Due.says("14: 0 whether it WORKS (1, 0), 1 how many CROWDS are come to, 2 of the GOAL, 3 no STEP, 4 MOST");
        for (int waking = 0; waking < 3; waking++) {
            for (int goal = 0; goal < 3; goal++) {
                Due.provedIs("one robot", Due.crowd(3, 2), waking, goal, 1, 1, 1, 0, 0);
                Due.provedIs("four that stay", Due.crowd(3, 0, 0, 0, 1), waking, goal, 0, 1, 0, 1, NONE);
            }
        }
        Due.provedIs("the start is among them", Due.crowd(9, 0, 1), 0, 2, 1, 1, 1, 0, 0);
        for (int what = 0; what < 5; what++) {
            int of = what;
            int[] due = {0, 3, 0, 1, NONE};
            Due.leaves("proves(1, 0, " + what + ")", Due::provable, x -> x.proves(1, 0, of), due[what]);
        }
        Due.says("14: From the CROWD as a start: as it is now");
        RingCrowd x = Due.ruled("see 1 1,6 1 near;see 2 1,5 1 near;see 3 1,4 1 near;", 7, 0, 3);
        for (int steps = 3; steps >= 0; steps--) {
            Due.due("MOST that is left", x.proves(1, 0, 4), steps);
            Due.due("the lower one goes up", x.go(3 - steps, 0), steps == 0 ? STATE : 1);
        }
        provesAnew();
    }

    /** What was proved of other rules, or of another number of robots, is of no use any more. */
    private static void provesAnew() {
        for (int waking = 0; waking < 3; waking++) {
            Due.says("14: by the rules as they are now");
            RingCrowd x = Due.ruled("see 4 1,4 1 near;", 8, 0, 4);
            Due.due("they go, waking " + waking, x.proves(waking, 0, 3), new int[] {1, 1, 2}[waking]);
            Due.due("no rules", x.rules(), 0);
            Due.provedIs("they stay", x, waking, 0, 0, 1, 0, 1, NONE);
            Due.due("starts that WORK without rules", x.starts(waking, 0, 1), 1);
            Due.due("a text with a fault", Due.read(x, "see 4 1,4 1 near;!"), -1000117);
            Due.provedIs("they still stay", x, waking, 0, 0, 1, 0, 1, NONE);
            Due.ruled(x, "see 4 1,4 1 far;");
            Due.due("they go again, waking " + waking, x.proves(waking, 0, 3), new int[] {1, 1, 2}[waking]);
            Due.says("14: by as many ROBOTS as there are now");
            x.robot(0);
            Due.provedIs("three stay", x, waking, 0, 0, 1, 0, 1, NONE);
            x.robot(0);
            Due.provedIs("four stay", x, waking, 2, 0, 1, 0, 1, NONE);
            x.wipe();
            x.robot(7);
            Due.provedIs("one is of all goals", x, waking, 1, 1, 1, 1, 0, 0);
            x.robot(7);
            Due.provedIs("two at a place are not spread", x, waking, 1, 0, 1, 0, 1, NONE);
            Due.due("starts that are spread, or come to it", x.starts(waking, 1, 1), 1);
        }
    }

    private static void provesRefused() {
        Due.says("14: BAD");
        for (int wrong : new int[] {LEAST, -1, 3, 4, GREATEST}) {
            Due.refused("waking " + wrong, Due::busy, x -> x.proves(wrong, 0, 0), BAD);
            Due.refused("goal " + wrong, Due::busy, x -> x.proves(0, wrong, 0), BAD);
            Due.refused("waking " + wrong, Due::busyWithout, x -> x.proves(wrong, 2, 4), BAD);
            Due.refused("goal " + wrong, Due::busyWithout, x -> x.proves(2, wrong, 4), BAD);
        }
        for (int wrong : new int[] {LEAST, -1, 5, 6, GREATEST}) {
            Due.refused("what " + wrong, Due::busy, x -> x.proves(0, 0, wrong), BAD);
            Due.refused("what " + wrong, Due::busyWithout, x -> x.proves(2, 2, wrong), BAD);
        }
        Due.says("14: STATE: no ROBOTS");
        for (int waking = 0; waking < 3; waking++) {
            for (int what = 0; what < 5; what++) {
                int by = waking;
                int of = what;
                Due.refused("proves", Due::busyWithout, x -> x.proves(by, by, of), STATE);
            }
        }
    }

    private static void starts() {
        Due.says("15: Of all CROWDS of as many ROBOTS as there are, by NAMES: 0 how many");
        // by hand: on 3 places the ways to part k, on others the necklaces that may be turned over
        int[][] many = {{3, 1, 2, 3, 4}, {4, 1, 3, 4, 8}, {5, 1, 3, 5, 10}, {6, 1, 4, 7, 16}, {7, 1, 4, 8, 20},
            {8, 1, 5, 10, 29}, {9, 1, 5, 12, 35}};
        for (int[] one : many) {
            RingCrowd x = new RingCrowd(one[0]);
            for (int k = 1; k <= 4; k++) {
                x.robot(0);
                Due.due("of " + k + " on " + one[0], x.starts(0, 0, 0), one[k]);
            }
            x.wipe();
            x.robot(1);
            Due.due("of one again on " + one[0], x.starts(2, 2, 0), 1);
        }
        Due.says("15: 1 from how many it WORKS");
        for (int waking = 0; waking < 3; waking++) {
            Due.due("without rules: together", Due.crowd(9, 0, 1).starts(waking, 0, 1), 1);
            Due.due("without rules: spread", Due.crowd(6, 0, 1, 2, 3).starts(waking, 1, 1), 2);
            Due.due("without rules: side by side", Due.crowd(6, 0, 1, 2, 3).starts(waking, 2, 1), 1);
            Due.due("a goal that no crowd is of: spread", Due.crowd(3, 0, 0, 0, 0).starts(waking, 1, 1), 0);
            Due.due("a goal that no crowd is of: side by side", Due.crowd(3, 0, 0, 0, 0).starts(waking, 2, 1), 0);
        }
        RingCrowd all = Due.ruled("see 1 1,6 1 near;see 2 1,5 1 near;see 3 1,4 1 near;", 7, 0, 0);
        Due.due("from all of them", all.starts(1, 0, 1), 4);
        Due.due("whatever the crowd is: at once", all.starts(0, 0, 1), 2);
        Due.due("whatever the crowd is: any", all.starts(2, 0, 1), 1);
        Due.leaves("starts(1, 2, 1)", Due::provable, x -> x.starts(1, 2, 1), 3);
        Due.leaves("starts(1, 2, 0)", Due::provable, x -> x.starts(1, 2, 0), 4);
    }

    private static void startsRefused() {
        Due.says("15: BAD");
        for (int wrong : new int[] {LEAST, -1, 3, 4, GREATEST}) {
            Due.refused("waking " + wrong, Due::busy, x -> x.starts(wrong, 0, 0), BAD);
            Due.refused("goal " + wrong, Due::busy, x -> x.starts(0, wrong, 0), BAD);
            Due.refused("waking " + wrong, Due::busyWithout, x -> x.starts(wrong, 2, 1), BAD);
            Due.refused("goal " + wrong, Due::busyWithout, x -> x.starts(2, wrong, 1), BAD);
        }
        for (int wrong : new int[] {LEAST, -1, 2, 3, GREATEST}) {
            Due.refused("what " + wrong, Due::busy, x -> x.starts(0, 0, wrong), BAD);
            Due.refused("what " + wrong, Due::busyWithout, x -> x.starts(2, 2, wrong), BAD);
        }
        Due.says("15: STATE: no ROBOTS");
        for (int waking = 0; waking < 3; waking++) {
            int by = waking;
            Due.refused("starts what 0", Due::busyWithout, x -> x.starts(by, by, 0), STATE);
            Due.refused("starts what 1", Due::busyWithout, x -> x.starts(by, by, 1), STATE);
        }
    }

    private static void kind() {
        Due.says("16: The KIND of the CROWD, as it is told (1 to 3)");
        Due.due("EVEN", Due.crowd(3, 0).kind(), 1);
        Due.due("ROUND", Due.crowd(3, 0, 1, 2).kind(), 2);
        Due.leaves("RIGID", Due::busy, RingCrowd::kind, 3);
        Due.says("16: STATE: no ROBOTS");
        Due.refused("kind()", Due::busyWithout, RingCrowd::kind, STATE);
        Due.due("a new object", new RingCrowd(4).kind(), STATE);
    }

    private static void as() {
        Due.says("17: The CROWD is taken as one of a KIND (0 .. 3): its ROBOTS");
        for (int k = 1; k <= 4; k++) {
            Due.due(k + " as 0", Due.crowd(9, new int[k]).as(0), k);
            Due.due(k + " as EVEN", Due.crowd(9, new int[k]).as(1), k);
        }
        Due.due("as ROUND", Due.crowd(8, 0, 4).as(2), 2);
        Due.leaves("as RIGID", Due::busy, x -> x.as(3), 4);
        Due.leaves("as 0", Due::busy, x -> x.as(0), 4);
        Due.says("17: BAD");
        for (int wrong : new int[] {LEAST, -1, 4, 5, GREATEST}) {
            Due.refused("as(" + wrong + ")", Due::busy, x -> x.as(wrong), BAD);
            Due.refused("as(" + wrong + ") without robots", Due::busyWithout, x -> x.as(wrong), BAD);
        }
        Due.says("17: STATE");
        for (int kind = 0; kind <= 3; kind++) {
            int of = kind;
            Due.refused("as(" + kind + ")", Due::busyWithout, x -> x.as(of), STATE);
        }
        Due.says("17: KIND: it is not told as that, nor is that 0");
        Due.refused("a RIGID one as EVEN", Due::busy, x -> x.as(1), KIND);
        Due.refused("a RIGID one as ROUND", Due::busy, x -> x.as(2), KIND);
        Due.refused("an EVEN one as ROUND", () -> Due.crowd(9, 0, 1), x -> x.as(2), KIND);
        Due.refused("an EVEN one as RIGID", () -> Due.crowd(9, 0, 1), x -> x.as(3), KIND);
        Due.refused("a ROUND one as EVEN, though a mirror leaves it", () -> Due.crowd(8, 0, 4), x -> x.as(1), KIND);
        Due.refused("a ROUND one as RIGID", () -> Due.crowd(8, 0, 4), x -> x.as(3), KIND);
    }

    private static void ask() {
        Due.says("18: An ASK (0, 1) of the CROWD. BAD");
        for (int wrong : new int[] {LEAST, -1, 2, 3, GREATEST}) {
            Due.refused("ask(" + wrong + ")", Due::busy, x -> x.ask(wrong), BAD);
            Due.refused("ask(" + wrong + ") without robots", Due::busyWithout, x -> x.ask(wrong), BAD);
        }
        Due.says("18: STATE");
        Due.refused("SIZE", Due::busyWithout, x -> x.ask(0), STATE);
        Due.refused("MARK", Due::busyWithout, x -> x.ask(1), STATE);
        Due.says("18: THE TRACE is empty ahead of it, if it is neither");
        RingCrowd x = Due.busy();
        Due.traceIs("of the ask before", x, 22, 20);
        Due.due("BAD", x.ask(2), BAD);
        Due.traceIs("behind BAD", x, 22, 20);
        Due.due("SIZE", x.ask(0), 8);
        Due.traceIs("of this one alone", x, 13, 10);
        x.wipe();
        Due.due("STATE", x.ask(1), STATE);
        Due.traceIs("behind STATE", x, 13, 10);
        x.robot(0);
        Due.due("MARK", x.ask(1), 1);
        Due.traceIs("of this one alone", x, 20);
    }

    private static void trace() {
        Due.says("19: Number i of THE TRACE; NONE");
        for (int i : new int[] {LEAST, -1, 2, 3, 15, 16, 17, GREATEST}) {
            Due.leaves("trace(" + i + ")", Due::busy, x -> x.trace(i), NONE);
        }
        Due.leaves("trace(0)", Due::busy, x -> x.trace(0), 22);
        Due.leaves("trace(1)", Due::busy, x -> x.trace(1), 20);
        Due.traceIs("a new object", new RingCrowd(5));
        for (int i : new int[] {LEAST, -1, 0, 15, 16, GREATEST}) {
            Due.due("trace(" + i + ") of a new object", new RingCrowd(5).trace(i), NONE);
        }
        RingCrowd refused = new RingCrowd(5);
        refused.ask(0);
        Due.traceIs("a refused ask leaves none", refused);
    }

    private static void count() {
        Due.says("20: How many: 0 n, 1 ROBOTS, 2 places with ROBOTS, 3 RULES, 4 turns, 5 mirrors, 6 bytes on the tape");
        counts(Due.busy(), 8, 4, 3, 2, 1, 0, 20);
        counts(Due.crowd(3, 0, 1, 2), 3, 3, 3, 0, 3, 3, 0);
        counts(Due.crowd(9, 8, 8, 8, 8), 9, 4, 1, 0, 1, 1, 0);
        counts(Due.crowd(8, 0, 2, 4, 6), 8, 4, 4, 0, 4, 4, 0);
        counts(Due.crowd(8, 0, 0, 4, 4), 8, 4, 2, 0, 2, 2, 0);
        counts(Due.crowd(9, 0, 3, 6), 9, 3, 3, 0, 3, 3, 0);
        counts(Due.busyWithTape(400), 8, 4, 3, 2, 1, 0, 400);
        counts(Due.ruled(Due.crowd(9, 0), Due.manyRules(30)), 9, 1, 1, 30, 1, 1, 0);
        Due.says("20: (both n without ROBOTS)");
        for (int n = 3; n <= 9; n++) {
            counts(new RingCrowd(n), n, 0, 0, 0, n, n, 0);
        }
        counts(Due.busyWithout(), 8, 0, 0, 2, 8, 8, 20);
        for (int what = 0; what < 7; what++) {
            int of = what;
            int due = Due.busy().count(what);
            Due.leaves("count(" + what + ")", Due::busy, x -> x.count(of), due);
        }
        Due.says("20: BAD");
        for (int wrong : new int[] {LEAST, -1, 7, 8, GREATEST}) {
            Due.refused("count(" + wrong + ")", Due::busy, x -> x.count(wrong), BAD);
            Due.refused("count(" + wrong + ") without robots", Due::busyWithout, x -> x.count(wrong), BAD);
        }
    }

    private static void counts(RingCrowd x, int... want) {
        for (int what = 0; what < want.length; what++) {
            Due.due("count(" + what + ")", x.count(what), want[what]);
        }
    }

    /** A call changes what its promise says, and no more. */
    private static void changesStayWithin() {
        Due.says("a call changes what its promise says: robot, wipe, step, go leave rules, tape, fault and trace");
        leavesAllButTheCrowd("robot(5)", y -> y.wipe() + y.robot(5));
        leavesAllButTheCrowd("wipe()", RingCrowd::wipe);
        leavesAllButTheCrowd("step()", RingCrowd::step);
        leavesAllButTheCrowd("go(0, 1)", y -> y.go(0, 1));
        Due.says("a call changes what its promise says: feed, rules, ask leave the crowd");
        RingCrowd x = Due.busy();
        x.feed(32, 1);
        Due.due("feed leaves the rules", x.count(3), 2);
        Due.due("feed leaves the fault", x.fault(), 2);
        x.rules();
        Due.due("rules without a fault leave the fault", x.fault(), 2);
        Due.traceIs("rules leave the trace", x, 22, 20);
        x.ask(0);
        Due.due("ask leaves the rules", x.count(3), 1);
        Due.placesAre("all leave the crowd", x, 1, 1, 0, 2, 0, 0, 0, 0);
    }

    private static void leavesAllButTheCrowd(String call, ToIntFunction<RingCrowd> by) {
        RingCrowd x = Due.busy();
        by.applyAsInt(x);
        Due.due("n behind " + call, x.count(0), 8);
        Due.due("rules behind " + call, x.count(3), 2);
        Due.due("tape behind " + call, x.count(6), 20);
        Due.due("fault behind " + call, x.fault(), 2);
        Due.traceIs("behind " + call, x, 22, 20);
        Due.due("the tape is read behind " + call, x.rules(), 1);
    }

    private static void fiveHundredAndTwelveCalls() {
        Due.says("An object is used for at most 512 calls after it has been made");
        RingCrowd x = new RingCrowd(9);
        for (int call = 1; call <= 4; call++) {
            Due.due("robot", x.robot(call - 1), call);
        }
        for (int call = 5; call <= 508; call += 4) {
            Due.due("proves, call " + call, x.proves(2, 2, 4), 0);
            Due.due("starts, call " + call, x.starts(2, 0, 0), 35);
            Due.due("rules, call " + call, x.rules(), 0);
            Due.due("ask, call " + call, x.ask(1), 4);
        }
        Due.due("call 509", x.feed(Due.word("see 9 4 "), 8), 8);
        Due.due("call 510", x.feed(Due.word("near;"), 5), 13);
        Due.due("call 511", x.rules(), 1);
        Due.due("call 512", x.starts(1, 0, 1), 1);
    }
}

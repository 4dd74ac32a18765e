import java.util.ArrayList;
import java.util.Arrays;
import java.util.List;

/** The document's "Terms", sentence by sentence: each boundary that one names has a test of its own here. */
public final class TermsTest {
    private static final int NONE = Due.NONE, BAD = Due.BAD, STATE = Due.STATE, FULL = Due.FULL, KIND = Due.KIND;

    public static void main(String[] args) {
        numbersFromNought();
        theFirstRefusalThatFits();
        theRing();
        theCrowd();
        theViews();
        namesOfLikeOnes();
        kinds();
        acts();
        atMostThirtyRules();
        wakings();
        whereAllStay();
        goals();
        theGoalLeadsNoFurther();
        whatWorks();
        mostSteps();
        theTape();
        tokens();
        blanks();
        theText();
        rulesInPlace();
        faultOne();
        theEnd();
        faultTwo();
        faultThree();
        theFirstFault();
        bodiesOfSize();
        bodiesOfMark();
        theFirstSixteen();
        Due.end("TermsTest");
    }

    private static void numbersFromNought() {
        Due.says("Numbers go from 0 on");
        RingCrowd x = Due.ruled("see 5 1 near;", 5, 0);
        Due.due("at(0)", x.at(0), 1);
        Due.due("view(0, 0)", x.view(0, 0), 5);
        Due.due("does(0)", x.does(0), 2);
        Due.due("name(0)", x.name(0), 1);
        Due.due("goal(0)", x.goal(0), 1);
        Due.due("proves(0, 0, 0)", x.proves(0, 0, 0), 1);
        Due.due("starts(0, 0, 0)", x.starts(0, 0, 0), 1);
        Due.due("as(0)", x.as(0), 1);
        Due.due("ask(0)", x.ask(0), 6);
        Due.due("trace(0)", x.trace(0), 11);
        Due.due("count(0)", x.count(0), 5);
        Due.due("go(0, 0)", x.go(0, 0), 1);
        Due.due("a fault at byte 0", Due.read(x, ";"), -1000100);
    }

    private static void theFirstRefusalThatFits() {
        Due.says("Refusals are answers, the first of these that fits: BAD, STATE, FULL, then KIND");
        Due.refused("robot(8): BAD ahead of FULL", Due::busy, x -> x.robot(8), BAD);
        Due.refused("feed(0, 9): BAD ahead of FULL", () -> Due.busyWithTape(400), x -> x.feed(0, 9), BAD);
        Due.refused("feed(0, 0): BAD ahead of FULL", () -> Due.busyWithTape(400), x -> x.feed(0, 0), BAD);
        Due.refused("go(8, 1): BAD ahead of STATE", Due::busyWithout, x -> x.go(8, 1), BAD);
        Due.refused("go(-1, 1): BAD ahead of STATE", Due::busyWithout, x -> x.go(-1, 1), BAD);
        Due.refused("proves(3, 0, 0): BAD ahead of STATE", Due::busyWithout, x -> x.proves(3, 0, 0), BAD);
        Due.refused("proves(0, 3, 0): BAD ahead of STATE", Due::busyWithout, x -> x.proves(0, 3, 0), BAD);
        Due.refused("proves(0, 0, 5): BAD ahead of STATE", Due::busyWithout, x -> x.proves(0, 0, 5), BAD);
        Due.refused("starts(3, 0, 0): BAD ahead of STATE", Due::busyWithout, x -> x.starts(3, 0, 0), BAD);
        Due.refused("starts(0, 3, 0): BAD ahead of STATE", Due::busyWithout, x -> x.starts(0, 3, 0), BAD);
        Due.refused("starts(0, 0, 2): BAD ahead of STATE", Due::busyWithout, x -> x.starts(0, 0, 2), BAD);
        Due.refused("as(4): BAD ahead of STATE", Due::busyWithout, x -> x.as(4), BAD);
        Due.refused("as(4): BAD ahead of KIND", Due::busy, x -> x.as(4), BAD);
        Due.refused("as(1): STATE ahead of KIND", Due::busyWithout, x -> x.as(1), STATE);
        Due.refused("as(2): STATE ahead of KIND", Due::busyWithout, x -> x.as(2), STATE);
        Due.refused("ask(2): BAD ahead of STATE", Due::busyWithout, x -> x.ask(2), BAD);
        Due.refused("view(8, -1): BAD ahead of NONE", Due::busy, x -> x.view(8, -1), BAD);
        Due.refused("does(8): BAD ahead of NONE", Due::busyWithout, x -> x.does(8), BAD);
    }

    // ---- 1

    private static void theRing() {
        Due.says("1: A RING of n places 0 .. n - 1 (3 to 9)");
        for (int n = 3; n <= 9; n++) {
            RingCrowd x = new RingCrowd(n);
            Due.due("n", x.count(0), n);
            Due.due("place n - 1 of " + n, x.robot(n - 1), 1);
            Due.due("place n of " + n, x.robot(n), BAD);
            Due.due("place 0 of " + n, x.robot(0), 2);
            Due.due("place -1 of " + n, x.robot(-1), BAD);
        }
        Due.says("1: n - 1 beside 0");
        for (int n = 3; n <= 9; n++) {
            String rule = "see " + n + " 1 near;";
            RingCrowd up = Due.ruled(rule, n, n - 1);
            Due.due("go(n - 1, 1) of " + n, up.go(n - 1, 1), 1);
            Due.due("up from n - 1 of " + n, up.at(0), 1);
            RingCrowd down = Due.ruled(rule, n, 0);
            Due.due("go(0, 0) of " + n, down.go(0, 0), 1);
            Due.due("down from 0 of " + n, down.at(n - 1), 1);
            RingCrowd all = Due.ruled(rule, n, n - 1);
            Due.due("step() of " + n, all.step(), 1);
            Due.due("a step up from n - 1 of " + n, all.at(0), 1);
        }
        for (int n = 4; n <= 9; n++) {
            RingCrowd pair = Due.ruled("see 1 1," + (n - 1) + " 1 near;", n, n - 1, 0);
            Due.rowIs("beside, from n - 1", pair, n - 1, 1, 1, n - 1, 1);
            Due.rowIs("beside, from 0", pair, 0, 1, 1, n - 1, 1);
            Due.due("the lesser row of n - 1 goes up", pair.does(n - 1), 1);
            Due.due("the lesser row of 0 goes down", pair.does(0), -1);
            Due.due("side by side over the seam", pair.goal(2), 1);
            Due.due("down from 0", pair.go(0, 1), 1);
            Due.due("both at n - 1", pair.at(n - 1), 2);
        }
        RingCrowd apart = Due.ruled("see 1 1,7 1 far;", 8, 7, 0);
        Due.due("both go away from the seam", apart.step(), 2);
        Due.placesAre("away from the seam", apart, 0, 1, 0, 0, 0, 0, 1, 0);
    }

    private static void theCrowd() {
        Due.says("1: k ROBOTS (1 to 4), each at a place (several may be at one)");
        RingCrowd x = new RingCrowd(3);
        for (int k = 1; k <= 4; k++) {
            Due.due("robot " + k, x.robot(2), k);
            Due.due("at one place", x.at(2), k);
            Due.due("all of them", x.count(1), k);
            Due.due("places", x.count(2), 1);
        }
        Due.due("a fifth", x.robot(0), FULL);
        Due.due("still at one place", x.count(2), 1);
        Due.says("1: A place alone: the one gap n and k");
        for (int n = 3; n <= 9; n++) {
            for (int k = 1; k <= 4; k++) {
                RingCrowd alone = Due.crowd(n, new int[k]);
                Due.rowIs(k + " alone on " + n, alone, 0, n, k);
                Due.ruled(alone, "see " + n + " " + k + " near;");
                Due.due(k + " alone on " + n + ": both rows are the same", alone.does(0), 2);
            }
        }
    }

    private static void theViews() {
        Due.says("1: GAPS: how far it is to the next place that has ROBOTS, and so on, round; its own the last one");
        RingCrowd x = Due.crowd(9, 0, 0, 0, 4);
        Due.rowIs("its own number is the last", x, 0, 4, 1, 5, 3);
        Due.rowIs("its own number is the last", x, 4, 4, 3, 5, 1);
        Due.says("1: VIEW: going up, or going down: the lesser of both rows (place by place)");
        Due.rowIs("up, by the first gap", Due.crowd(7, 2, 3), 2, 1, 1, 6, 1);
        Due.rowIs("down, by the first gap", Due.crowd(7, 2, 3), 3, 1, 1, 6, 1);
        Due.rowIs("up, by the first number", Due.crowd(9, 0, 3, 6, 6), 0, 3, 1, 3, 2, 3, 1);
        Due.rowIs("down, by the first number", Due.crowd(9, 0, 3, 3, 6), 0, 3, 1, 3, 2, 3, 1);
        Due.rowIs("up, by the second gap", Due.crowd(9, 0, 3, 4, 6), 0, 3, 1, 1, 1, 2, 1, 3, 1);
        Due.rowIs("down, by the second gap", Due.crowd(9, 0, 3, 5, 6), 0, 3, 1, 1, 1, 2, 1, 3, 1);
        Due.rowIs("a gap goes ahead of the number behind it", Due.crowd(9, 0, 2, 2, 6), 0, 2, 2, 4, 1, 3, 1);
        Due.rowIs("both are the same", Due.crowd(8, 0, 2, 4, 6), 6, 2, 1, 2, 1, 2, 1, 2, 1);
        for (int n = 3; n <= 9; n++) {
            for (int[] places : crowds(n)) {
                viewsHold(n, places);
            }
        }
    }

    /** A view must lead round to its own place, must be true of the places it meets, and be the lesser of both. */
    private static void viewsHold(int n, int[] places) {
        RingCrowd x = Due.crowd(n, places);
        for (int place : places) {
            int items = 0;
            int[] row = new int[8];
            while (items < 8 && x.view(place, items) != NONE) {
                row[items] = x.view(place, items);
                items++;
            }
            Due.due("a gap and a number of each place", items, 2 * x.count(2));
            boolean up = leads(x, n, place, row, items, 1);
            Due.holds("up or down from " + place, up || leads(x, n, place, row, items, -1));
            int lesser = 0;
            for (int i = 0; i < items && lesser == 0; i++) {
                // the other way round the gaps are met backwards, and so are the numbers but for its own
                int other = i == items - 1 ? row[i] : row[items - 2 - i];
                lesser = Integer.compare(row[i], other);
            }
            Due.holds("the lesser row from " + place, lesser <= 0);
        }
    }

    private static boolean leads(RingCrowd x, int n, int place, int[] row, int items, int way) {
        int gaps = 0;
        for (int i = 0; i < items; i += 2) {
            gaps += row[i];
            int met = Math.floorMod(place + way * gaps, n);
            if (row[i] < 1 || x.at(met) != row[i + 1]) {
                return false;
            }
        }
        return gaps == n;
    }

    /** All crowds of 1 to 4 robots on a ring, each once. */
    private static List<int[]> crowds(int n) {
        List<int[]> all = new ArrayList<>();
        for (int a = 0; a < n; a++) {
            all.add(new int[] {a});
            for (int b = a; b < n; b++) {
                all.add(new int[] {a, b});
                for (int c = b; c < n; c++) {
                    all.add(new int[] {a, b, c});
                    for (int d = c; d < n; d++) {
                        all.add(new int[] {a, b, c, d});
                    }
                }
            }
        }
        return all;
    }

    private static int[] numbers(int n, int[] places, int turn, int sign) {
        int[] row = new int[n];
        for (int place : places) {
            row[Math.floorMod(turn + sign * place, n)]++;
        }
        return row;
    }

    private static void namesOfLikeOnes() {
        Due.says("1: LIKE: turned round or seen in a mirror; NAME: the greatest row of how many ROBOTS are there");
        Due.nameIs("over the seam", Due.crowd(5, 4, 0), 1, 1, 0, 0, 0);
        Due.nameIs("in a mirror", Due.crowd(7, 0, 2, 3), 1, 1, 0, 1, 0, 0, 0);
        Due.nameIs("as it is", Due.crowd(7, 0, 1, 3), 1, 1, 0, 1, 0, 0, 0);
        Due.nameIs("two go ahead of one", Due.crowd(6, 0, 1, 2, 2), 2, 1, 1, 0, 0, 0);
        Due.nameIs("three go ahead of one", Due.crowd(9, 0, 8, 8, 8), 3, 1, 0, 0, 0, 0, 0, 0, 0);
        Due.nameIs("all at the last place", Due.crowd(3, 2, 2, 2, 2), 4, 0, 0);
        Due.nameIs("none", new RingCrowd(3), 0, 0, 0);
        for (int n = 3; n <= 9; n++) {
            for (int[] places : crowds(n)) {
                nameHolds(n, places);
            }
        }
    }

    private static void nameHolds(int n, int[] places) {
        int[] greatest = new int[n];
        int turns = 0;
        int mirrors = 0;
        int[] own = numbers(n, places, 0, 1);
        for (int c = 0; c < n; c++) {
            int[] turned = numbers(n, places, c, 1);
            int[] mirrored = numbers(n, places, c, -1);
            turns += Arrays.equals(turned, own) ? 1 : 0;
            mirrors += Arrays.equals(mirrored, own) ? 1 : 0;
            greatest = Arrays.compare(turned, greatest) > 0 ? turned : greatest;
            greatest = Arrays.compare(mirrored, greatest) > 0 ? mirrored : greatest;
        }
        RingCrowd x = Due.crowd(n, places);
        Due.nameIs("of " + Arrays.toString(places) + " on " + n, x, greatest);
        Due.due("turns", x.count(4), turns);
        Due.due("mirrors", x.count(5), mirrors);
        Due.due("kind", x.kind(), turns > 1 ? 2 : mirrors > 0 ? 1 : 3);
    }

    private static void kinds() {
        Due.says("1: EVEN: some mirror leaves it as it is; a mirror: place x becomes (c - x) modulo n for some c");
        Due.due("through a place, c 0", Due.crowd(7, 1, 6).kind(), 1);
        Due.due("between places over the seam, c n - 1", Due.crowd(7, 0, 6).kind(), 1);
        Due.due("through a place of an even ring", Due.crowd(8, 0, 0, 3, 5).kind(), 1);
        Due.due("between places of an even ring", Due.crowd(8, 0, 1, 3, 6).kind(), 1);
        Due.due("one robot", Due.crowd(9, 8).kind(), 1);
        Due.says("1: ROUND: some turn by 1 to n - 1 places leaves it as it is");
        Due.due("by 1", Due.crowd(3, 0, 1, 2).kind(), 2);
        Due.due("by 1, of four", Due.crowd(4, 0, 1, 2, 3).kind(), 2);
        Due.due("by half of it", Due.crowd(8, 3, 3, 7, 7).kind(), 2);
        Due.due("by a third of it", Due.crowd(9, 2, 5, 8).kind(), 2);
        Due.due("by a quarter of it", Due.crowd(8, 1, 3, 5, 7).kind(), 2);
        Due.due("a turn by 0 is none of these", Due.crowd(5, 0, 1).kind(), 1);
        Due.due("numbers are looked at", Due.crowd(8, 3, 3, 7).kind(), 1);
        Due.says("1: RIGID: neither a mirror nor a turn does");
        Due.due("three", Due.crowd(6, 0, 1, 3).kind(), 3);
        Due.due("two and one", Due.crowd(5, 0, 0, 1).kind(), 3);
        Due.due("three and one", Due.crowd(9, 0, 0, 0, 4).kind(), 3);
        Due.due("the least ring", Due.crowd(3, 0, 0, 0, 1).kind(), 3);
        Due.says("1: It is told as the first that fits of ROUND, EVEN, RIGID: by this it is asked");
        RingCrowd both = Due.crowd(6, 0, 3);
        Due.due("a mirror leaves it, too", both.count(5), 2);
        Due.due("ROUND ahead of EVEN", both.kind(), 2);
        Due.due("as EVEN", both.as(1), KIND);
        Due.due("asked as ROUND", both.ask(0), 4);
    }

    // ---- 2

    private static void acts() {
        Due.says("2: 0 stays, 1 goes near: as the row that is its VIEW goes; 2 goes far: the other way");
        Due.due("near, the view goes up", Due.ruled("see 1 1,4 1 near;", 5, 2, 3).does(2), 1);
        Due.due("near, the view goes down", Due.ruled("see 1 1,4 1 near;", 5, 2, 3).does(3), -1);
        Due.due("far, the view goes up", Due.ruled("see 1 1,4 1 far;", 5, 2, 3).does(2), -1);
        Due.due("far, the view goes down", Due.ruled("see 1 1,4 1 far;", 5, 2, 3).does(3), 1);
        Due.due("stay", Due.ruled("see 1 1,4 1 stay;", 5, 2, 3).does(3), 0);
        Due.says("2: Where both rows are the same, it goes either way (whichever)");
        Due.due("near", Due.ruled("see 5 1 near;", 5, 2).does(2), 2);
        Due.due("far", Due.ruled("see 5 1 far;", 5, 2).does(2), 2);
        Due.due("it may stay all the same", Due.ruled("see 5 1 stay;", 5, 2).does(2), 0);
        RingCrowd number = Due.ruled("see 3 1,3 2,3 1 near;", 9, 0, 3, 3, 6);
        Due.due("rows that differ in a number alone, up", number.does(6), 1);
        Due.due("rows that differ in a number alone, down", number.does(0), -1);
        Due.says("2: VIEWS without a RULE stay");
        Due.due("no rules", Due.crowd(5, 2, 3).does(2), 0);
        Due.due("the row of the other way", Due.ruled("see 4 1,1 1 near;", 5, 2, 3).does(2), 0);
        Due.due("a row that is shorter", Due.ruled("see 1 1 near;", 5, 2, 3).does(2), 0);
        Due.due("a row that is longer", Due.ruled("see 1 1,4 1,5 1 near;", 5, 2, 3).does(2), 0);
        Due.due("another number", Due.ruled("see 1 2,4 1 near;", 5, 2, 3).does(2), 0);
        Due.due("another number of its own", Due.ruled("see 1 1,4 2 near;", 5, 2, 3).does(2), 0);
        Due.due("another gap", Due.ruled("see 2 1,3 1 near;", 5, 2, 3).does(2), 0);
    }

    private static void atMostThirtyRules() {
        Due.says("2: At most 30 RULES");
        RingCrowd x = Due.crowd(9, 4);
        Due.due("29 and one for its view", Due.read(x, Due.manyRules(29) + "see9 1near;"), 30);
        Due.due("the last one holds", x.does(4), 2);
        Due.due("one for its view and 29", Due.read(x, "see9 1far;" + Due.manyRules(29)), 30);
        Due.due("the first one holds", x.does(4), 2);
        Due.due("31", Due.read(x, Due.manyRules(31)), -1000100 - 30 * 11);
        Due.due("the 30 are still there", x.count(3), 30);
        Due.due("and hold", x.does(4), 2);
    }

    /** Both ends of three in a row of gaps 2, 2, 5 go to the middle one; then the last one follows. */
    private static final String CLOSE_UP = "see 2 1,2 1,5 1 near;see 2 1,1 1,6 1 near;";

    private static void wakings() {
        Due.says("2: WAKING: 0 all: each ROBOT does as its VIEW tells, at once");
        RingCrowd x = Due.ruled(CLOSE_UP, 9, 0, 2, 4);
        Due.provedIs("both at once", x, 0, 2, 1, 2, 1, 0, 1);
        Due.says("2: 1 one: some one ROBOT that does not stay");
        Due.provedIs("one by one", x, 1, 2, 1, 3, 1, 0, 2);
        Due.provedIs("one of both at a place", Due.ruled("see 7 2 near;", 7, 3, 3), 1, 2, 1, 2, 1, 0, 1);
        Due.says("2: 2 any: some ROBOTS that do not stay, one or more, at once");
        Due.provedIs("any of both", x, 2, 2, 1, 3, 1, 0, 2);
        // of four at a place 1 to 4 go, each up or down: by names 4, 31, 22, 301, 202, 121 and 211, and all but 4 stay
        Due.provedIs("any of four at a place", Due.ruled("see 9 4 near;", 9, 7, 7, 7, 7), 2, 2, 0, 7, 0, 6, NONE);
        Due.says("2: those that may go either way do so each by itself");
        RingCrowd pair = Due.ruled("see 7 2 near;", 7, 3, 3);
        Due.provedIs("two at once: both up, both down, or apart", pair, 0, 1, 0, 2, 0, 1, NONE);
        Due.provedIs("any of two: beside, apart, or both", pair, 2, 1, 0, 3, 0, 2, NONE);
    }

    private static void whereAllStay() {
        Due.says("2: none leads from one in which all stay");
        for (int waking = 0; waking < 3; waking++) {
            Due.provedIs("no rules", Due.crowd(5, 0, 2), waking, 0, 0, 1, 0, 1, NONE);
            Due.provedIs("told to stay", Due.ruled("see 2 1,3 1 stay;", 5, 0, 2), waking, 0, 0, 1, 0, 1, NONE);
            Due.provedIs("come to", Due.ruled("see 1 1,4 1 near;", 5, 0, 1), 1, 1, 0, 2, 0, 1, NONE);
        }
        RingCrowd still = Due.ruled("see 2 1,3 1 stay;", 5, 0, 2);
        Due.due("step()", still.step(), 0);
        Due.placesAre("as before", still, 1, 0, 1, 0, 0);
    }

    private static void goals() {
        Due.says("2: GOALS: 0 TOGETHER: all at one place");
        for (int k = 1; k <= 4; k++) {
            Due.due(k + " at the last place", Due.crowd(k + 2, lasts(k + 2, k)).goal(0), 1);
        }
        Due.due("one is elsewhere", Due.crowd(5, 4, 4, 4, 0).goal(0), 0);
        Due.says("2: 1 SPREAD: places with ROBOTS have one each");
        Due.due("one", Due.crowd(9, 8).goal(1), 1);
        Due.due("two at a place", Due.crowd(9, 8, 8).goal(1), 0);
        Due.due("two opposite two", Due.crowd(8, 0, 0, 4, 4).goal(1), 0);
        Due.due("more than places", Due.crowd(3, 0, 1, 2, 2).goal(1), 0);
        Due.due("on each place one", Due.crowd(3, 0, 1, 2).goal(1), 1);
        Due.says("2: 2 SIDE BY SIDE: one each on k places that follow one another");
        Due.due("one", Due.crowd(9, 8).goal(2), 1);
        Due.due("over the seam", Due.crowd(9, 7, 8, 0, 1).goal(2), 1);
        Due.due("the whole ring", Due.crowd(4, 0, 1, 2, 3).goal(2), 1);
        Due.due("all but one place", Due.crowd(5, 0, 1, 3, 4).goal(2), 1);
        Due.due("two at a place", Due.crowd(9, 0, 0, 1).goal(2), 0);
        Due.due("more than places", Due.crowd(3, 0, 1, 2, 2).goal(2), 0);
        Due.due("a place between", Due.crowd(9, 0, 2).goal(2), 0);
        Due.due("two and two", Due.crowd(9, 0, 1, 4, 5).goal(2), 0);
        Due.due("the last is away", Due.crowd(9, 0, 1, 2, 4).goal(2), 0);
        Due.says("2: all gaps are n by k or one more (cut)");
        for (int n = 3; n <= 9; n++) {
            for (int[] places : crowds(n)) {
                spreadHolds(n, places);
            }
        }
        Due.due("9 by 4 is 2: 2 2 2 3", Due.crowd(9, 0, 2, 4, 6).goal(1), 1);
        Due.due("9 by 4: 1 2 3 3", Due.crowd(9, 0, 1, 3, 6).goal(1), 0);
        Due.due("7 by 4 is 1: 1 2 2 2", Due.crowd(7, 0, 1, 3, 5).goal(1), 1);
        Due.due("7 by 4: 1 1 2 3", Due.crowd(7, 0, 1, 2, 4).goal(1), 0);
        Due.due("8 by 3 is 2: 2 3 3", Due.crowd(8, 0, 2, 5).goal(1), 1);
        Due.due("8 by 3: 2 2 4", Due.crowd(8, 0, 2, 4).goal(1), 0);
        Due.due("4 by 3 is 1, over the seam", Due.crowd(4, 3, 0, 1).goal(1), 1);
        Due.due("9 by 2 is 4: 4 5", Due.crowd(9, 8, 3).goal(1), 1);
        Due.due("9 by 2: 3 6", Due.crowd(9, 8, 2).goal(1), 0);
    }

    private static int[] lasts(int n, int k) {
        int[] places = new int[k];
        Arrays.fill(places, n - 1);
        return places;
    }

    /** The places are in order here, so that gaps are the differences, and the last one goes over the seam. */
    private static void spreadHolds(int n, int[] places) {
        int k = places.length;
        boolean spread = true;
        boolean together = true;
        for (int i = 0; i < k; i++) {
            int gap = i + 1 < k ? places[i + 1] - places[i] : places[0] + n - places[i];
            spread &= gap >= 1 && (gap == n / k || gap == n / k + 1);
            together &= places[i] == places[0];
        }
        RingCrowd x = Due.crowd(n, places);
        Due.due("goal(1) of " + Arrays.toString(places) + " on " + n, x.goal(1), spread ? 1 : 0);
        Due.due("goal(0) of " + Arrays.toString(places) + " on " + n, x.goal(0), together ? 1 : 0);
    }

    private static void theGoalLeadsNoFurther() {
        Due.says("2: those of the GOAL led no further");
        RingCrowd x = Due.ruled("see 1 1,6 1 far;see 2 1,5 1 far;", 7, 0, 1);
        Due.provedIs("a start of the goal", x, 1, 2, 1, 1, 1, 0, 0);
        Due.provedIs("a goal further on, where they would stay", x, 1, 1, 1, 3, 1, 0, 2);
        RingCrowd passing = Due.ruled("see 1 1,8 1 far;see 2 1,7 1 far;see 3 1,6 1 far;see 4 1,5 1 near;", 9, 0, 1);
        Due.provedIs("a goal from which a way leads back", passing, 1, 1, 1, 4, 1, 0, 3);
        Due.provedIs("the same way without a goal on it", passing, 1, 0, 0, 4, 0, 0, NONE);
        Due.says("2: LIKE ones taken for one");
        RingCrowd opposite = Due.ruled("see 3 1,3 1 near;", 6, 0, 3);
        Due.provedIs("up and down are LIKE", opposite, 1, 0, 0, 2, 0, 1, NONE);
        RingCrowd turned = Due.ruled("see 1 1,4 1 near;see 1 2,4 1 near;", 5, 4, 0);
        Due.provedIs("a start over the seam", turned, 1, 0, 1, 2, 1, 0, 1);
    }

    private static void whatWorks() {
        Due.says("2: It WORKS, if from each CROWD that is come to and is not of the GOAL a STEP leads on");
        RingCrowd x = Due.ruled("see 3 1,4 1 near;", 7, 0, 3);
        Due.provedIs("they stay short of it", x, 1, 2, 0, 2, 0, 1, NONE);
        Due.ruled(x, "see 3 1,4 1 near;see 2 1,5 1 near;");
        Due.provedIs("they stay at it", x, 1, 2, 1, 3, 1, 0, 2);
        Due.provedIs("one way of several stays short of it", x, 2, 2, 0, 4, 1, 1, NONE);
        Due.says("2: and no way goes round");
        Due.provedIs("they change places: to itself", Due.ruled("see 1 1,4 1 near;", 5, 0, 1), 0, 0, 0, 1, 0, 0, NONE);
        RingCrowd round = Due.ruled("see 1 1,6 1 far;see 2 1,5 1 near;", 7, 0, 2);
        Due.provedIs("over two", round, 1, 0, 0, 2, 0, 0, NONE);
        RingCrowd either = Due.ruled("see 7 2 near;see 2 1,5 1 near;", 7, 0, 0);
        Due.provedIs("come to the goal, or round", either, 0, 1, 0, 2, 0, 0, NONE);
        RingCrowd may = Due.ruled("see 2 1,3 1 near;see 1 1,4 1 far;", 5, 0, 2);
        Due.provedIs("the goal may be missed for ever", may, 2, 0, 0, 3, 1, 0, NONE);
        RingCrowd behind = Due.ruled("see 3 1,4 1 near;see 2 1,5 1 far;", 7, 0, 2);
        Due.provedIs("a way round that is led over the goal", behind, 1, 1, 1, 2, 1, 0, 1);
        Due.provedIs("the same one, not of the goal", behind, 1, 0, 0, 2, 0, 0, NONE);
        RingCrowd unmet = Due.ruled("see 1 1,6 1 near;see 3 1,4 1 near;see 2 1,5 1 far;", 7, 0, 1);
        Due.provedIs("a way round that is not come to", unmet, 1, 0, 1, 2, 1, 0, 1);
    }

    private static void mostSteps() {
        Due.says("2: MOST: the greatest number of STEPS of a way from the start to the GOAL");
        RingCrowd x = Due.ruled(CLOSE_UP, 9, 0, 2, 4);
        Due.due("one step or two", x.proves(2, 2, 4), 2);
        Due.due("one step", x.proves(0, 2, 4), 1);
        Due.due("a start of the goal", Due.ruled(CLOSE_UP, 9, 8, 0, 1).proves(2, 2, 4), 0);
        Due.due("it does not WORK", Due.crowd(9, 0, 2, 4).proves(2, 2, 4), NONE);
        RingCrowd far = Due.ruled("see 1 1,8 1 near;see 2 1,7 1 near;see 3 1,6 1 near;see 4 1,5 1 near;", 9, 4, 8);
        Due.due("as far as two can be", far.proves(1, 0, 4), 4);
        // one walks up to three that stand: the longest way of two places with robots
        RingCrowd walk = Due.ruled("see 4 3,5 1near;see 3 3,6 1near;see 2 3,7 1near;see 1 3,8 1near;", 9, 0, 0, 0, 5);
        Due.provedIs("one walks to three", walk, 2, 0, 1, 5, 1, 0, 4);
    }

    // ---- 3

    private static void theTape() {
        Due.says("3: THE TAPE has at most 400 bytes");
        for (int n = 1; n <= 8; n++) {
            int many = n;
            RingCrowd x = new RingCrowd(9);
            Due.feed(x, "see 9 1 near;" + Due.blanks(400 - 13 - many));
            Due.due("up to the last byte by " + many, x.feed(Due.word(Due.blanks(many)), many), 400);
            Due.due("400 bytes are read", x.rules(), 1);
            Due.refused("a byte too many by " + many, () -> Due.busyWithTape(401 - many),
                y -> y.feed(Due.word(";;;;;;;;"), many), FULL);
        }
        Due.refused("one more than 400", () -> Due.busyWithTape(400), x -> x.feed(32, 1), FULL);
    }

    private static void tokens() {
        Due.says("3: NAMES (letters a to z, 6 at most)");
        Due.faultIs("seesee", 1, 0);
        Due.faultIs("seeseen", 1, 0);
        Due.faultIs("zzzzzz", 1, 0);
        Due.faultIs("aaaaaaa", 1, 0);
        Due.faultIs("see 1 1 nearer;", 1, 8);
        Due.faultIs("see 1 1 nearest;", 1, 8);
        Due.faultIs("see 1 1 nearfar;", 1, 8);
        Due.faultIs("see 1 1 staystaystay;", 1, 8);
        Due.faultIs("see 1 1 neara;", 1, 8);
        Due.faultIs("see 1 1 nearz;", 1, 8);
        Due.faultIs("see 1 1 `near;", 1, 8);
        Due.faultIs("see 1 1 near{;", 1, 12);
        Due.faultIs("SEE 1 1 near;", 1, 0);
        Due.faultIs("see 1 1 Near;", 1, 8);
        Due.faultIs("see 1 1 neaR;", 1, 8);
        Due.says("3: NUMBERS (figures, 2 at most)");
        Due.rulesAre("see 9 9 far;", 1);
        Due.rulesAre("see 99 99 far;", 1);
        Due.rulesAre("see 09 01 far;", 1);
        Due.faultIs("see 100 1 far;", 1, 4);
        Due.faultIs("see 1 100 far;", 1, 6);
        Due.faultIs("see 1234567890 1 far;", 1, 4);
        Due.faultIs("see / 1 far;", 1, 4);
        Due.faultIs("see : 1 far;", 1, 4);
        Due.faultIs("see 1/1 far;", 1, 5);
        Due.faultIs("see 1:1 far;", 1, 5);
        Due.faultIs("see -1 1 far;", 1, 4);
        Due.says("3: SIGNS ; ,");
        Due.faultIs("see 1 1.2 2 far;", 1, 7);
        Due.faultIs("see 1 1 far:", 1, 11);
        Due.faultIs("see 1 1 far<", 1, 11);
        Due.faultIs("see 1 1+2 2 far;", 1, 7);
        Due.faultIs("see 1 1-2 2 far;", 1, 7);
        for (int b = 0; b < 256; b++) {
            boolean blank = b == 32 || b == 10;
            RingCrowd x = new RingCrowd(9);
            Due.due("byte " + b + " alone", Due.read(x, "" + (char) b), blank ? 0 : -1000100);
            Due.due("its fault", x.fault(), blank ? 0 : 1);
            x = new RingCrowd(9);
            Due.due("byte " + b + " at a text's end", Due.read(x, "see 1 1 far;" + (char) b), blank ? 1 : -1000112);
        }
    }

    private static void blanks() {
        Due.says("3: bytes 32 and 10 ahead of, between, behind these, as many as wanted");
        String[] some = {" ", "\n", "  ", " \n", "\n\n \n  "};
        for (String blank : some) {
            Due.rulesAre(blank, 0);
            Due.rulesAre(blank + "see" + blank + "1" + blank + "1" + blank + "," + blank + "2" + blank + "3" + blank
                + "far" + blank + ";" + blank, 1);
        }
        Due.rulesAre(Due.blanks(400), 0);
        Due.rulesAre(Due.blanks(388) + "see 1 1 far;", 1);
        Due.rulesAre("see" + Due.blanks(390) + "1 1far;", 1);
        Due.says("3: none is needed where one ends without");
        Due.rulesAre("see1 1near;", 1);
        Due.rulesAre("see1 1,2 3far;see12 34stay;", 2);
        Due.says("3: a blank ends a TOKEN");
        Due.faultIs("se e 1 1 near;", 1, 0);
        Due.faultIs("see 1 1 ne\nar;", 1, 8);
        Due.faultIs("see 1 1 1 near;", 1, 8);
        Due.faultIs("see 11 near;", 1, 7);
        Due.says("3: bytes that are no blank");
        Due.faultIs("see 1 1\tnear;", 1, 7);
        Due.faultIs("see 1 1\rnear;", 1, 7);
        Due.faultIs("see 1 1" + (char) 160 + "near;", 1, 7);
        Due.faultIs("see 1 1" + (char) 0 + "near;", 1, 7);
        Due.faultIs((char) 255 + "see 1 1 near;", 1, 0);
    }

    private static void theText() {
        Due.says("3: text: { 'see' NUMBER NUMBER { ',' NUMBER NUMBER } ( 'near' | 'far' | 'stay' ) ';' }");
        Due.rulesAre("", 0);
        Due.rulesAre("see 1 1 near;", 1);
        Due.rulesAre("see 1 1,1 1 far;", 1);
        Due.rulesAre("see 1 1,1 1,1 1 stay;", 1);
        Due.rulesAre("see 1 1,1 1,1 1,1 1 near;", 1);
        Due.rulesAre("see 1 1 near;see 2 1 far;see 3 1 stay;", 3);
        Due.faultIs("near", 1, 0);
        Due.faultIs("12", 1, 0);
        Due.faultIs("see near;", 1, 4);
        Due.faultIs("see ,", 1, 4);
        Due.faultIs("see ;", 1, 4);
        Due.faultIs("see see", 1, 4);
        Due.faultIs("see 1 near;", 1, 6);
        Due.faultIs("see 1,1 near;", 1, 5);
        Due.faultIs("see 1;", 1, 5);
        Due.faultIs("see 1 see", 1, 6);
        Due.faultIs("see 1 1;", 1, 7);
        Due.faultIs("see 1 1 see", 1, 8);
        Due.faultIs("see 1 1 2 near;", 1, 8);
        Due.faultIs("see 1 1,near;", 1, 8);
        Due.faultIs("see 1 1,,", 1, 8);
        Due.faultIs("see 1 1,;", 1, 8);
        Due.faultIs("see 1 1,2 near;", 1, 10);
        Due.faultIs("see 1 1,2,", 1, 9);
        Due.faultIs("see 1 1 near,", 1, 12);
        Due.faultIs("see 1 1 near 1", 1, 13);
        Due.faultIs("see 1 1 near see", 1, 13);
        Due.faultIs("see 1 1 near far;", 1, 13);
        Due.faultIs("see 1 1 near;;", 1, 13);
        Due.faultIs("see 1 1 near;,", 1, 13);
        Due.faultIs("see 1 1 near;2 1 near;", 1, 13);
        Due.faultIs("see 1 1 near;far;", 1, 13);
    }

    private static void rulesInPlace() {
        Due.says("3: RULES in place of those before");
        RingCrowd x = Due.ruled("see 9 1 near;see 9 2 near;", 9, 4);
        Due.due("the first ones hold", x.does(4), 2);
        Due.due("others", Due.read(x, "see 9 2 near;"), 1);
        Due.due("as many as these", x.count(3), 1);
        Due.due("those before are gone", x.does(4), 0);
        Due.due("a row of those before is free", Due.read(x, "see 9 2 far;see 9 1 far;"), 2);
        Due.due("these hold", x.does(4), 2);
        Due.due("none at all", Due.read(x, " "), 0);
        Due.due("none holds", x.does(4), 0);
        Due.due("thirty", Due.read(x, Due.manyRules(30)), 30);
        Due.due("thirty again", Due.read(x, Due.manyRules(30)), 30);
    }

    private static void faultOne() {
        Due.says("3: FAULT 1: it cannot stand there, or is none (a run of three figures or more, at its first)");
        Due.faultIs("see 123", 1, 4);
        Due.faultIs("see  000 1 near;", 1, 5);
        Due.faultIs("see 1 1,001", 1, 8);
        Due.faultIs("000", 1, 0);
        Due.faultIs("see 1 1 100", 1, 8);
        Due.faultIs("see 1 1 near;\n !", 1, 15);
        Due.faultIs("see 1 1 go;", 1, 8);
        Due.faultIs("  seen 1 1 near;", 1, 2);
        Due.faultIs("see 1 1 nea;", 1, 8);
        Due.faultIs("se", 1, 0);
        Due.faultIs("s", 1, 0);
        Due.faultIs("tee", 1, 0);
        Due.faultIs("sea", 1, 0);
        Due.faultIs("see 1 1 fat;", 1, 8);
        Due.faultIs("see 1 1 star;", 1, 8);
    }

    private static void theEnd() {
        Due.says("3: FAULT 1: the end: how many bytes there are");
        Due.faultIs("see", 1, 3);
        Due.faultIs("see 1", 1, 5);
        Due.faultIs("see 1 1", 1, 7);
        Due.faultIs("see 1 1,", 1, 8);
        Due.faultIs("see 1 1,2", 1, 9);
        Due.faultIs("see 1 1,2 2", 1, 11);
        Due.faultIs("see 1 1 near", 1, 12);
        Due.faultIs("see \n ", 1, 6);
        Due.faultIs("see 1 1 near  ", 1, 14);
        Due.faultIs("see 1 1 near;see", 1, 16);
        Due.faultIs("see 1 1 near" + Due.blanks(388), 1, 400);
        Due.faultIs(Due.blanks(397) + "see", 1, 400);
        Due.faultIs(Due.blanks(399) + "!", 1, 399);
        Due.rulesAre(Due.blanks(388) + "see 1 1near;", 1);
        Due.says("3: the end may stand behind a rule, or alone");
        Due.rulesAre("see 1 1 near;", 1);
        Due.rulesAre("", 0);
    }

    private static void faultTwo() {
        Due.says("3: FAULT 2: a NUMBER: 0");
        Due.faultIs("see 0 1 near;", 2, 4);
        Due.faultIs("see 00 1 near;", 2, 4);
        Due.faultIs("see 1 0 near;", 2, 6);
        Due.faultIs("see 1 00", 2, 6);
        Due.faultIs("see 1 1,0", 2, 8);
        Due.faultIs("see 1 1,2 0", 2, 10);
        Due.faultIs("see 1 1,2 2,3 3,4 0", 2, 18);
        Due.rulesAre("see 10 10 near;", 1);
        Due.rulesAre("see 01 10 near;", 1);
        Due.says("3: of one TOKEN the least: a 0 that cannot stand there");
        Due.faultIs("0", 1, 0);
        Due.faultIs("see 1 1 0", 1, 8);
        Due.faultIs("see 1 1 near 0", 1, 13);
        Due.faultIs("see 1 1 near;00", 1, 13);
        Due.faultIs("see 000 1 near;", 1, 4);
    }

    private static void faultThree() {
        Due.says("3: FAULT 3: the 5th pair of one (its , )");
        Due.faultIs("see 1 1,2 2,3 3,4 4,5 5 near;", 3, 19);
        Due.faultIs("see 1 1,2 2,3 3,4 4 ,", 3, 20);
        Due.faultIs("see 1 1,2 2,3 3,4 4,near;", 3, 19);
        Due.faultIs("see 1 1,2 2,3 3,4 4,0", 3, 19);
        Due.faultIs("see 9 9 far;see 1 1,2 2,3 3,4 4,5 5 near;", 3, 31);
        Due.rulesAre("see 1 1,2 2,3 3,4 4 near;see 1 1,2 2,3 3,5 5 near;", 2);
        Due.says("3: FAULT 3: the 31st 'see'");
        Due.rulesAre(Due.manyRules(30), 30);
        Due.rulesAre(Due.manyRules(30) + " \n", 30);
        Due.faultIs(Due.manyRules(31), 3, 330);
        Due.faultIs(Due.manyRules(30) + " see", 3, 331);
        Due.faultIs(Due.manyRules(30) + "\n\nsee!", 3, 332);
        Due.says("3: FAULT 3: at the word 'near', 'far', 'stay': there is a RULE for this row");
        String[] words = {"near", "far", "stay"};
        for (String first : words) {
            for (String second : words) {
                Due.faultIs("see 1 1 " + first + ";see 1 1 " + second + ";", 3, 8 + first.length() + 9);
            }
        }
        Due.faultIs("see 1 1,2 2 near;see 3 3 far;see 01 1,02 2\nstay", 3, 43);
        Due.faultIs(Due.manyRules(29) + "see10 1far;", 3, 29 * 11 + 7);
        Due.faultIs(Due.manyRules(29) + "see38 1far;", 3, 29 * 11 + 7);
        Due.rulesAre("see 1 1,2 2 near;see 2 2,1 1 near;", 2);
        Due.rulesAre("see 1 1 near;see 1 1,1 1 near;see 1 1,1 1,1 1 near;see 1 1,1 1,1 1,1 1 near;", 4);
        Due.rulesAre("see 1 11 near;see 11 1 near;see 1 1 near;", 3);
        Due.says("3: of one TOKEN the least: what cannot stand there, though it were one too many");
        Due.faultIs("see 1 1 near near", 1, 13);
        Due.faultIs("see 1 1 near;near", 1, 13);
        Due.faultIs("see 1 1,2 2,3 3,4 4 near,", 1, 24);
        Due.faultIs(Due.manyRules(29) + "see see", 1, 29 * 11 + 4);
        Due.faultIs(Due.manyRules(30) + "near", 1, 330);
    }

    private static void theFirstFault() {
        Due.says("3: FAULTS, the first TOKEN that has one");
        Due.faultIs("see 0 100 go;;", 2, 4);
        Due.faultIs("see 1 100 go,0", 1, 6);
        Due.faultIs("see 1 1 near;see 1 1 far see 0", 3, 21);
        Due.faultIs("see 1 1 near;see 1 0 near;", 2, 19);
        Due.faultIs("! see 0", 1, 0);
        RingCrowd x = new RingCrowd(5);
        Due.read(x, "see 0 100 go;;");
        Due.due("that one is told", x.fault(), 2);
    }

    // ---- 4

    private static void bodiesOfSize() {
        Due.says("4: 0 SIZE: 10 lent to all CROWDS: k. 11 of EVEN ones: what 10 gives, and n");
        int[][] evens = {{3, 4, 0}, {9, 10, 8}, {5, 7, 0, 0}, {4, 8, 1, 1, 1, 1}, {9, 13, 0, 1, 2, 3}};
        for (int[] one : evens) {
            RingCrowd x = Due.crowd(one[0], Arrays.copyOfRange(one, 2, one.length));
            Due.due("SIZE of " + Arrays.toString(one), x.ask(0), one[1]);
            Due.traceIs("SIZE of an EVEN one", x, 11, 10);
        }
        Due.says("4: 12 of ROUND ones: what 10 gives, and how many turns (0 among them) leave it as it is");
        int[][] rounds = {{4, 4, 0, 2}, {3, 6, 0, 1, 2}, {8, 8, 0, 2, 4, 6}, {8, 6, 0, 0, 4, 4}, {4, 8, 0, 1, 2, 3}};
        for (int[] one : rounds) {
            RingCrowd x = Due.crowd(one[0], Arrays.copyOfRange(one, 2, one.length));
            Due.due("SIZE of " + Arrays.toString(one), x.ask(0), one[1]);
            Due.traceIs("SIZE of a ROUND one", x, 12, 10);
        }
        Due.says("4: 13 of RIGID ones: twice what 10 gives (asked once)");
        RingCrowd three = Due.crowd(6, 0, 1, 3);
        Due.due("SIZE of three", three.ask(0), 6);
        Due.traceIs("10 begins once", three, 13, 10);
        RingCrowd four = Due.crowd(3, 0, 0, 0, 1);
        Due.due("SIZE of four", four.ask(0), 8);
        Due.traceIs("10 begins once", four, 13, 10);
    }

    private static void bodiesOfMark() {
        Due.says("4: 1 MARK: 20 lent to all CROWDS: how many places have ROBOTS (EVEN ones have no BODY of their own)");
        RingCrowd even = Due.crowd(5, 0, 0, 2, 3);
        Due.due("MARK of an EVEN one", even.ask(1), 3);
        Due.traceIs("the one that is lent", even, 20);
        RingCrowd alone = Due.crowd(5, 4, 4, 4, 4);
        Due.due("MARK of a place alone", alone.ask(1), 1);
        Due.traceIs("the one that is lent", alone, 20);
        Due.says("4: 21 of ROUND ones: what 20 gives, and SIZE (asked of the same CROWD anew)");
        RingCrowd round = Due.crowd(8, 0, 0, 4, 4);
        Due.due("MARK of a ROUND one", round.ask(1), 2 + 4 + 2);
        Due.traceIs("SIZE begins within", round, 21, 20, 12, 10);
        RingCrowd full = Due.crowd(4, 0, 1, 2, 3);
        Due.due("MARK of a full ring", full.ask(1), 4 + 4 + 4);
        Due.traceIs("SIZE begins within", full, 21, 20, 12, 10);
        Due.says("4: 22 of RIGID ones: what 20 gives, and 100");
        RingCrowd rigid = Due.crowd(5, 0, 0, 1);
        Due.due("MARK of a RIGID one", rigid.ask(1), 102);
        Due.traceIs("MARK of a RIGID one", rigid, 22, 20);
    }

    private static void theFirstSixteen() {
        Due.says("4: each leaves its number in THE TRACE as it begins (the first 16)");
        RingCrowd x = Due.crowd(4, 0, 2);
        for (int ask = 0; ask < 20; ask++) {
            Due.due("MARK", x.ask(1), 6);
        }
        Due.traceIs("of the latest ask alone", x, 21, 20, 12, 10);
        Due.due("number 15", x.trace(15), NONE);
        Due.due("number 16", x.trace(16), NONE);
        Due.due("SIZE", x.ask(0), 4);
        Due.traceIs("a shorter one leaves nothing of the longer", x, 12, 10);
    }
}

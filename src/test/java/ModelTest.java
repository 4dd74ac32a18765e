import java.util.ArrayDeque;
import java.util.ArrayList;
import java.util.Arrays;
import java.util.Collections;
import java.util.HashMap;
import java.util.HashSet;
import java.util.LinkedHashMap;
import java.util.List;
import java.util.Map;
import java.util.Random;
import java.util.Set;
import java.util.TreeSet;
import java.util.regex.Matcher;
import java.util.regex.Pattern;

/**
 * Seeded runs of calls on the class and on a plain model of the document, written another way (lists, sets, words
 * matched by patterns, ways walked one by one): every answer must be the same.
 */
public final class ModelTest {
    private static final int NONE = -1000000, BAD = -1000001, STATE = -1000002, FULL = -1000003, KIND = -1000004;
    private static final int RUNS = 600;
    /** What an object answers to calls beyond these is free; rules, fault and a survey need their share of them. */
    private static final int CALLS = 512, KEPT = 60;

    private static int wrong = 0;
    private static final Map<String, Integer> seen = new HashMap<>();

    public static void main(String[] args) {
        for (int run = 0; run < RUNS && wrong < 20; run++) {
            new Run(run).play();
        }
        checkThatRunsMeetAll();
        System.out.println(wrong == 0 ? "ModelTest: all answers are as due" : "ModelTest: " + wrong + " wrong");
        if (wrong != 0) {
            System.exit(1);
        }
    }

    /** A comparison that never meets a case proves nothing of it. */
    private static void checkThatRunsMeetAll() {
        String[] cases = {"robot FULL", "rules fault 1", "rules fault 2", "rules fault 3", "rules fine", "does -1",
            "does 0", "does 1", "does 2", "go STATE", "go 1", "feed FULL", "proves works", "proves most 3",
            "proves stuck", "starts some", "as KIND", "kind 1", "kind 2", "kind 3", "step 4", "goal 1"};
        for (String one : cases) {
            if (!seen.containsKey(one)) {
                wrong++;
                System.out.println("no run met: " + one);
            }
        }
    }

    private static void note(String one) {
        seen.merge(one, 1, Integer::sum);
    }

    private static final class Run {
        private final Random random;
        private final int number;
        private final RingCrowd real;
        private final Model model;
        private final StringBuilder calls = new StringBuilder();
        private int made = 0;

        Run(int number) {
            this.number = number;
            random = new Random(number * 7919L + 13);
            int n = random.nextInt(10) == 0 ? random.nextInt(40) - 10 : 3 + random.nextInt(7);
            real = new RingCrowd(n);
            model = new Model(n);
            calls.append("new RingCrowd(").append(n).append(")");
        }

        void play() {
            while (made < CALLS && wrong < 20) {
                if (made < CALLS - KEPT && random.nextInt(8) == 0) {
                    text();
                } else {
                    single();
                }
            }
        }

        private int due(String call, int got, int want) {
            calls.append("; ").append(call);
            made++;
            if (got != want) {
                wrong++;
                System.out.println("run " + number + ": " + call + " answered " + got + ", due is " + want);
                System.out.println("  after " + calls);
            }
            return want;
        }

        private int place() {
            return random.nextInt(12) == 0 ? random.nextInt(30) - 10 : random.nextInt(model.n);
        }

        private int upTo(int bound) {
            if (random.nextInt(200) == 0) {
                return random.nextBoolean() ? Integer.MIN_VALUE : Integer.MAX_VALUE;
            }
            return random.nextInt(20) == 0 ? random.nextInt(bound + 4) - 2 : random.nextInt(bound);
        }

        private void text() {
            String text = model.randomText(random);
            byte[] bytes = text.getBytes(java.nio.charset.StandardCharsets.ISO_8859_1);
            int fed = 0;
            while (fed < bytes.length && made < CALLS - KEPT) {
                int many = Math.min(1 + random.nextInt(8), bytes.length - fed);
                long w = random.nextLong();
                for (int i = 0; i < many; i++) {
                    w = (w << 8) | (bytes[fed + i] & 255);
                }
                if (due("feed(" + w + ", " + many + ")", real.feed(w, many), model.feed(w, many)) == FULL) {
                    note("feed FULL");
                }
                fed += many;
            }
            int answer = due("rules()", real.rules(), model.rules());
            due("fault()", real.fault(), model.fault);
            note(answer < 0 ? "rules fault " + model.fault : "rules fine");
            if (answer > 0 && random.nextInt(3) == 0) {
                survey();
            }
        }

        /** All proofs from another crowd of as many robots. */
        private void survey() {
            int robots = due("wipe()", real.wipe(), model.wipe());
            for (int i = 0; i < robots; i++) {
                int p = random.nextInt(model.n);
                due("robot(" + p + ")", real.robot(p), model.robot(p));
            }
            for (int waking = 0; waking < 3; waking++) {
                for (int goal = 0; goal < 3; goal++) {
                    for (int what = 0; what < 5; what++) {
                        proofs(waking, goal, what);
                    }
                }
            }
        }

        private void single() {
            int p = place();
            int a = upTo(3);
            int b = upTo(3);
            switch (random.nextInt(19)) {
                case 0: case 1:
                    if (due("robot(" + p + ")", real.robot(p), model.robot(p)) == FULL) note("robot FULL");
                    break;
                case 2:
                    if (random.nextInt(3) == 0) due("wipe()", real.wipe(), model.wipe());
                    break;
                case 3: due("at(" + p + ")", real.at(p), model.at(p)); break;
                case 4:
                    int i = upTo(9);
                    due("view(" + p + ", " + i + ")", real.view(p, i), model.view(p, i));
                    break;
                case 5: note("does " + due("does(" + p + ")", real.does(p), model.does(p))); break;
                case 6: due("name(" + p + ")", real.name(p), model.name(p)); break;
                case 7: note("goal " + due("goal(" + a + ")", real.goal(a), model.goal(a))); break;
                case 8: note("step " + due("step()", real.step(), model.step())); break;
                case 9: case 10:
                    int way = upTo(2);
                    int went = due("go(" + p + ", " + way + ")", real.go(p, way), model.go(p, way));
                    note(went == STATE ? "go STATE" : "go " + went);
                    break;
                case 11:
                    int many = upTo(9);
                    long w = random.nextLong();
                    if (due("feed(" + w + ", " + many + ")", real.feed(w, many), model.feed(w, many)) == FULL) {
                        note("feed FULL");
                    }
                    break;
                case 12: proofs(a, b, upTo(5)); break;
                case 13:
                    int what = upTo(2);
                    int some = due("starts(" + a + ", " + b + ", " + what + ")", real.starts(a, b, what),
                        model.starts(a, b, what));
                    if (what == 1 && some > 1) note("starts some");
                    break;
                case 14: note("kind " + due("kind()", real.kind(), model.kind())); break;
                case 15:
                    int kind = upTo(4);
                    if (due("as(" + kind + ")", real.as(kind), model.as(kind)) == KIND) note("as KIND");
                    break;
                case 16: due("ask(" + a + ")", real.ask(a), model.ask(a)); break;
                case 17:
                    int t = upTo(5);
                    due("trace(" + t + ")", real.trace(t), model.traceAt(t));
                    break;
                default:
                    int c = upTo(7);
                    due("count(" + c + ")", real.count(c), model.count(c));
            }
        }

        private void proofs(int waking, int goal, int what) {
            int answer = due("proves(" + waking + ", " + goal + ", " + what + ")", real.proves(waking, goal, what),
                model.proves(waking, goal, what));
            if (what == 0 && answer == 1) note("proves works");
            if (what == 3 && answer > 0) note("proves stuck");
            if (what == 4 && answer > 2) note("proves most 3");
        }
    }

    /** The document, told as plainly as it can be; how long a call takes does not matter here. */
    private static final class Model {
        private static final Pattern TOKEN = Pattern.compile("[ \\n]*(?:([a-z]+)|([0-9]+)|([;,])|([^ \\n])|$)",
            Pattern.DOTALL);

        final int n;
        List<Integer> robots = new ArrayList<>();
        Map<List<Integer>, String> rules = new LinkedHashMap<>();
        String tape = "";
        int fault = 0;
        List<Integer> trace = new ArrayList<>();

        Model(int n) {
            this.n = n < 3 ? 3 : n > 9 ? 9 : n;
        }

        private int mod(int x) {
            return ((x % n) + n) % n;
        }

        private boolean noPlace(int place) {
            return place < 0 || place >= n;
        }

        private int many(List<Integer> crowd, int place) {
            return Collections.frequency(crowd, place);
        }

        private List<Integer> row(List<Integer> crowd, int place, int way) {
            List<Integer> row = new ArrayList<>();
            int last = 0;
            for (int d = 1; d <= n; d++) {
                int q = mod(place + way * d);
                if (many(crowd, q) > 0) {
                    row.add(d - last);
                    row.add(many(crowd, q));
                    last = d;
                }
            }
            return row;
        }

        private static int compare(List<Integer> a, List<Integer> b) {
            for (int i = 0; i < a.size(); i++) {
                if (!a.get(i).equals(b.get(i))) {
                    return a.get(i) - b.get(i);
                }
            }
            return 0;
        }

        private List<Integer> viewOf(List<Integer> crowd, int place) {
            List<Integer> up = row(crowd, place, 1);
            List<Integer> down = row(crowd, place, -1);
            return compare(up, down) <= 0 ? up : down;
        }

        /** The places one robot at a place may go to by one step of its own; none if it stays. */
        private Set<Integer> targets(List<Integer> crowd, int place) {
            Set<Integer> to = new TreeSet<>();
            String act = rules.getOrDefault(viewOf(crowd, place), "stay");
            for (int way = -1; way <= 1; way += 2) {
                boolean isView = row(crowd, place, way).equals(viewOf(crowd, place));
                boolean otherIsView = row(crowd, place, -way).equals(viewOf(crowd, place));
                if (act.equals("near") && isView || act.equals("far") && otherIsView) {
                    to.add(way);
                }
            }
            return to;
        }

        private List<Integer> rowOfAll(List<Integer> crowd) {
            List<Integer> all = new ArrayList<>();
            for (int p = 0; p < n; p++) {
                all.add(many(crowd, p));
            }
            return all;
        }

        private List<Integer> nameOf(List<Integer> crowd) {
            List<Integer> best = null;
            for (int c = 0; c < n; c++) {
                for (int s = -1; s <= 1; s += 2) {
                    List<Integer> like = new ArrayList<>();
                    for (int p : crowd) {
                        like.add(mod(c + s * p));
                    }
                    List<Integer> all = rowOfAll(like);
                    if (best == null || compare(all, best) > 0) {
                        best = all;
                    }
                }
            }
            return best;
        }

        private int leftAlone(List<Integer> crowd, int s) {
            int same = 0;
            for (int c = 0; c < n; c++) {
                List<Integer> like = new ArrayList<>();
                for (int p : crowd) {
                    like.add(mod(c + s * p));
                }
                if (rowOfAll(like).equals(rowOfAll(crowd))) {
                    same++;
                }
            }
            return same;
        }

        private boolean ofGoal(List<Integer> crowd, int goal) {
            Set<Integer> places = new TreeSet<>(crowd);
            int k = crowd.size();
            if (k == 0) {
                return false;
            }
            if (goal == 0) {
                return places.size() == 1;
            }
            if (places.size() != k) {
                return false;
            }
            if (goal == 1) {
                List<Integer> row = row(crowd, crowd.get(0), 1);
                for (int i = 0; i < row.size(); i += 2) {
                    int gap = row.get(i);
                    if (gap != n / k && gap != n / k + 1) {
                        return false;
                    }
                }
                return true;
            }
            for (int first = 0; first < n; first++) {
                Set<Integer> wanted = new TreeSet<>();
                for (int i = 0; i < k; i++) {
                    wanted.add(mod(first + i));
                }
                if (wanted.equals(places)) {
                    return true;
                }
            }
            return false;
        }

        int robot(int place) {
            if (noPlace(place)) return BAD;
            if (robots.size() == 4) return FULL;
            robots.add(place);
            return robots.size();
        }

        int wipe() {
            int were = robots.size();
            robots = new ArrayList<>();
            return were;
        }

        int at(int place) {
            return noPlace(place) ? BAD : many(robots, place);
        }

        int view(int place, int i) {
            if (noPlace(place)) return BAD;
            if (many(robots, place) == 0) return NONE;
            List<Integer> view = viewOf(robots, place);
            return i < 0 || i >= view.size() ? NONE : view.get(i);
        }

        int does(int place) {
            if (noPlace(place)) return BAD;
            if (many(robots, place) == 0) return NONE;
            Set<Integer> to = targets(robots, place);
            return to.isEmpty() ? 0 : to.size() == 2 ? 2 : to.iterator().next();
        }

        int name(int place) {
            return noPlace(place) ? BAD : nameOf(robots).get(place);
        }

        int goal(int goal) {
            if (goal < 0 || goal > 2) return BAD;
            return ofGoal(robots, goal) ? 1 : 0;
        }

        int step() {
            if (robots.isEmpty()) return STATE;
            List<Integer> next = new ArrayList<>();
            int moved = 0;
            for (int p : robots) {
                Set<Integer> to = targets(robots, p);
                if (!to.isEmpty()) moved++;
                next.add(to.isEmpty() ? p : mod(p + Collections.max(to)));
            }
            robots = next;
            return moved;
        }

        int go(int place, int way) {
            if (noPlace(place)) return BAD;
            if (many(robots, place) == 0) return STATE;
            Set<Integer> to = targets(robots, place);
            if (to.isEmpty()) return STATE;
            int by = to.size() == 2 ? (way == 1 ? 1 : -1) : to.iterator().next();
            robots.set(robots.indexOf(place), mod(place + by));
            return 1;
        }

        int feed(long w, int many) {
            if (many < 1 || many > 8) return BAD;
            if (tape.length() + many > 400) return FULL;
            StringBuilder more = new StringBuilder(tape);
            for (int i = many - 1; i >= 0; i--) {
                more.append((char) ((w >> (8 * i)) & 255));
            }
            tape = more.toString();
            return tape.length();
        }

        int rules() {
            String text = tape;
            tape = "";
            Map<List<Integer>, String> found = new LinkedHashMap<>();
            Matcher m = TOKEN.matcher(text);
            int at = 0;
            int sees = 0;
            List<Integer> row = new ArrayList<>();
            String wants = "see";
            while (true) {
                m.region(at, text.length());
                if (!m.lookingAt()) {
                    throw new IllegalStateException("the pattern takes any text");
                }
                at = m.end();
                String word = m.group(1);
                String figures = m.group(2);
                String sign = m.group(3);
                boolean end = word == null && figures == null && sign == null && m.group(4) == null;
                int place = end ? text.length() : word != null ? m.start(1) : figures != null ? m.start(2)
                    : sign != null ? m.start(3) : m.start(4);
                boolean act = "near".equals(word) || "far".equals(word) || "stay".equals(word);
                boolean number = figures != null && figures.length() <= 2;
                int bad = 0;
                if (wants.equals("see")) {
                    if (end) {
                        rules = found;
                        return found.size();
                    }
                    bad = !"see".equals(word) ? 1 : ++sees > 30 ? 3 : 0;
                    row = new ArrayList<>();
                    wants = "number";
                } else if (wants.equals("number")) {
                    bad = !number ? 1 : Integer.parseInt(figures) == 0 ? 2 : 0;
                    if (bad == 0) row.add(Integer.parseInt(figures));
                    wants = row.size() % 2 == 0 ? "more" : "number";
                } else if (wants.equals("more")) {
                    if (act) {
                        bad = found.containsKey(row) ? 3 : 0;
                        found.putIfAbsent(row, word);
                        wants = ";";
                    } else {
                        bad = !",".equals(sign) ? 1 : row.size() == 8 ? 3 : 0;
                        wants = "number";
                    }
                } else {
                    bad = !";".equals(sign) ? 1 : 0;
                    wants = "see";
                }
                if (bad != 0) {
                    fault = bad;
                    return -1000100 - place;
                }
            }
        }

        /** All crowds that one step can lead to, as they stand. */
        private List<List<Integer>> next(List<Integer> crowd, int waking) {
            List<List<Integer>> out = new ArrayList<>();
            int k = crowd.size();
            for (int awake = 1; awake < 1 << k; awake++) {
                boolean fits = true;
                int movers = 0;
                for (int r = 0; r < k; r++) {
                    boolean moves = !targets(crowd, crowd.get(r)).isEmpty();
                    boolean woken = (awake >> r & 1) == 1;
                    if (woken) movers++;
                    if (woken && !moves || waking == 0 && moves && !woken) fits = false;
                }
                if (!fits || waking == 1 && movers != 1) continue;
                for (int ways = 0; ways < 1 << k; ways++) {
                    List<Integer> to = new ArrayList<>();
                    boolean can = true;
                    for (int r = 0; r < k; r++) {
                        int by = (awake >> r & 1) == 0 ? 0 : (ways >> r & 1) == 0 ? -1 : 1;
                        if (by != 0 && !targets(crowd, crowd.get(r)).contains(by)) can = false;
                        to.add(mod(crowd.get(r) + by));
                    }
                    if (can) out.add(to);
                }
            }
            return out;
        }

        private List<Integer> crowdOf(List<Integer> name) {
            List<Integer> crowd = new ArrayList<>();
            for (int p = 0; p < n; p++) {
                for (int i = 0; i < name.get(p); i++) crowd.add(p);
            }
            return crowd;
        }

        private Map<List<Integer>, Set<List<Integer>>> reach(List<Integer> start, int waking, int goal) {
            Map<List<Integer>, Set<List<Integer>>> to = new HashMap<>();
            ArrayDeque<List<Integer>> open = new ArrayDeque<>();
            open.add(nameOf(start));
            while (!open.isEmpty()) {
                List<Integer> name = open.poll();
                if (to.containsKey(name)) continue;
                Set<List<Integer>> links = new HashSet<>();
                to.put(name, links);
                if (ofGoal(crowdOf(name), goal)) continue;
                for (List<Integer> crowd : next(crowdOf(name), waking)) links.add(nameOf(crowd));
                open.addAll(links);
            }
            return to;
        }

        /** The longest way from a name by depth first; -1 if one goes round or stops short of the goal. */
        private int most(List<Integer> name, Map<List<Integer>, Set<List<Integer>>> to, int goal,
            Set<List<Integer>> open, Map<List<Integer>, Integer> known) {
            if (ofGoal(crowdOf(name), goal)) return 0;
            if (known.containsKey(name)) return known.get(name);
            if (!open.add(name)) return -1;
            int most = to.get(name).isEmpty() ? -1 : 0;
            for (List<Integer> next : to.get(name)) {
                int further = most(next, to, goal, open, known);
                most = further < 0 || most < 0 ? -1 : Math.max(most, further + 1);
            }
            open.remove(name);
            known.put(name, most);
            return most;
        }

        private int provesFrom(List<Integer> start, int waking, int goal, int what) {
            Map<List<Integer>, Set<List<Integer>>> to = reach(start, waking, goal);
            int most = most(nameOf(start), to, goal, new HashSet<>(), new HashMap<>());
            int atGoal = 0;
            int stuck = 0;
            for (List<Integer> name : to.keySet()) {
                if (ofGoal(crowdOf(name), goal)) atGoal++;
                else if (to.get(name).isEmpty()) stuck++;
            }
            int[] answers = {most < 0 ? 0 : 1, to.size(), atGoal, stuck, most < 0 ? NONE : most};
            return answers[what];
        }

        int proves(int waking, int goal, int what) {
            if (waking < 0 || waking > 2 || goal < 0 || goal > 2 || what < 0 || what > 4) return BAD;
            if (robots.isEmpty()) return STATE;
            return provesFrom(robots, waking, goal, what);
        }

        private Set<List<Integer>> allNames(int k) {
            Set<List<Integer>> names = new HashSet<>();
            int all = 1;
            for (int i = 0; i < k; i++) all *= n;
            for (int code = 0; code < all; code++) {
                List<Integer> crowd = new ArrayList<>();
                int rest = code;
                boolean sorted = true;
                for (int i = 0; i < k; i++) {
                    if (i > 0 && rest % n < crowd.get(i - 1)) sorted = false;
                    crowd.add(rest % n);
                    rest /= n;
                }
                if (sorted) names.add(nameOf(crowd));
            }
            return names;
        }

        int starts(int waking, int goal, int what) {
            if (waking < 0 || waking > 2 || goal < 0 || goal > 2 || what < 0 || what > 1) return BAD;
            if (robots.isEmpty()) return STATE;
            int works = 0;
            Set<List<Integer>> names = allNames(robots.size());
            for (List<Integer> name : names) {
                if (what == 1) works += provesFrom(crowdOf(name), waking, goal, 0);
            }
            return what == 0 ? names.size() : works;
        }

        int kind() {
            if (robots.isEmpty()) return STATE;
            return leftAlone(robots, 1) > 1 ? 2 : leftAlone(robots, -1) > 0 ? 1 : 3;
        }

        int as(int kind) {
            if (kind < 0 || kind > 3) return BAD;
            if (robots.isEmpty()) return STATE;
            return kind == 0 || kind == kind() ? robots.size() : KIND;
        }

        private int size() {
            int k = robots.size();
            trace.addAll(Arrays.asList(10 + kind(), 10));
            return kind() == 1 ? k + n : kind() == 2 ? k + leftAlone(robots, 1) : 2 * k;
        }

        int ask(int what) {
            if (what < 0 || what > 1) return BAD;
            if (robots.isEmpty()) return STATE;
            trace.clear();
            if (what == 0) return size();
            int taken = new TreeSet<>(robots).size();
            if (kind() > 1) trace.add(19 + kind());
            trace.add(20);
            return kind() == 1 ? taken : kind() == 2 ? taken + size() : taken + 100;
        }

        int traceAt(int i) {
            return i < 0 || i >= trace.size() || i >= 16 ? NONE : trace.get(i);
        }

        int count(int what) {
            switch (what) {
                case 0: return n;
                case 1: return robots.size();
                case 2: return new TreeSet<>(robots).size();
                case 3: return rules.size();
                case 4: return leftAlone(robots, 1);
                case 5: return leftAlone(robots, -1);
                case 6: return tape.length();
                default: return BAD;
            }
        }

        /** Mostly rules for views that crowds of this ring have, so that robots go; at times spoilt. */
        String randomText(Random random) {
            if (!robots.isEmpty() && random.nextInt(12) == 0) {
                return plannedText(random);
            }
            StringBuilder text = new StringBuilder();
            int k = robots.isEmpty() ? 1 + random.nextInt(4) : robots.size();
            int many = random.nextInt(6) == 0 ? 28 + random.nextInt(5) : random.nextInt(20);
            boolean short_ = many > 20;
            Set<List<Integer>> done = new HashSet<>();
            for (int i = 0; i < many; i++) {
                List<Integer> view = short_ ? Arrays.asList(1 + random.nextInt(99), 1 + random.nextInt(9))
                    : someView(random, k);
                if (!done.add(view) && random.nextInt(20) != 0) continue;
                text.append("see");
                blank(text, random, short_);
                for (int j = 0; j < view.size(); j++) {
                    text.append(j == 0 ? "" : j % 2 == 0 ? "," : " ");
                    if (!short_) blank(text, random, true);
                    text.append(random.nextInt(30) == 0 && view.get(j) < 10 ? "0" : "").append(view.get(j));
                }
                blank(text, random, true);
                String[] acts = {"near", "near", "far", "stay"};
                text.append(acts[random.nextInt(4)]);
                blank(text, random, true);
                text.append(";");
            }
            if (random.nextInt(3) == 0 && text.length() > 0) spoil(text, random);
            return text.toString();
        }

        /** Rules that lead to a goal from more and more starts, found by trying: rules by chance hardly ever do. */
        private String plannedText(Random random) {
            Map<List<Integer>, String> before = rules;
            Map<List<Integer>, String> best = new LinkedHashMap<>();
            int waking = random.nextInt(4) == 0 ? 2 : 1;
            int goal = random.nextInt(3);
            int bestWorks = 0;
            for (int i = 0; i < 40; i++) {
                rules = new LinkedHashMap<>(best);
                rules.put(someView(random, robots.size()), random.nextInt(3) == 0 ? "far" : "near");
                int works = starts(waking, goal, 1);
                if (works > bestWorks && rules.size() <= 10) {
                    bestWorks = works;
                    best = rules;
                }
            }
            rules = before;
            StringBuilder text = new StringBuilder();
            for (Map.Entry<List<Integer>, String> rule : best.entrySet()) {
                String row = rule.getKey().toString().replaceAll("[\\[\\] ]", "");
                text.append("see ").append(row.replaceAll("([0-9]+),([0-9]+)", "$1 $2")).append(rule.getValue())
                    .append(';');
            }
            return text.toString();
        }

        private static void blank(StringBuilder text, Random random, boolean rare) {
            if (random.nextInt(rare ? 40 : 2) == 0) text.append(random.nextBoolean() ? " " : "\n");
        }

        private List<Integer> someView(Random random, int k) {
            if (random.nextInt(5) == 0 && !robots.isEmpty()) {
                return viewOf(robots, robots.get(random.nextInt(robots.size())));
            }
            List<Integer> crowd = new ArrayList<>();
            for (int i = 0; i < k; i++) crowd.add(random.nextInt(n));
            return random.nextInt(8) == 0 ? row(crowd, crowd.get(0), 1) : viewOf(crowd, crowd.get(0));
        }

        private static void spoil(StringBuilder text, Random random) {
            String[] bits = {"see", "near", "far", "stay", ",", ";", "0", "00", "1", "12", "123", "a", "seesees", " ",
                "\n", "\t", "S", "\u00e9", "\u0000", "1 1,", ",1 1,1 1,1 1,1 1", "{", "`", "/", ":"};
            int at = random.nextInt(text.length() + 1);
            switch (random.nextInt(3)) {
                case 0: text.insert(at, bits[random.nextInt(bits.length)]); break;
                case 1: text.setLength(at); break;
                default: if (at < text.length()) text.deleteCharAt(at);
            }
        }
    }
}

import java.util.ArrayList;
import java.util.Arrays;
import java.util.HashMap;
import java.util.HashSet;
import java.util.List;
import java.util.Map;
import java.util.NoSuchElementException;
import java.util.Random;
import java.util.Set;

/**
 * Long runs of calls, drawn from fixed seeds, on the class and on a model that follows the document word by word with
 * no thought of speed: every answer must be the same.
 */
public final class ModelTest {
    private static final int RUNS = 1500;

    /**
     * Gardens in which the last BEAT of 1500 counts, found by a search: how many JUNCTIONS, which is OUT, PERIOD, a PLACE;
     * PATHS; GATES; RULES.
     */
    private static final String[][] LIMITS = {
        {"7 -1 3 0", "0,0 4,5 2,1 4,4 0,4 4,5 2,0 1,3 4,6", "", "a:3take b|3drop a;b:3take a|1drop b;c:2take b|4drop b;"},
        {"7 -1 4 3", "3,0 1,0 5,5 4,3 0,1 5,6 3,1 2,5 1,5 3,0 5,3", "3,6 2,0",
            "a:1take a|2drop c;b:4take b|0drop a;c:1take d|3drop d;d:0take c|4drop a;"},
        {"7 -1 7 6", "4,3 1,4 3,2 6,3 5,0 3,0 1,4 6,2 3,5 1,4 4,2", "2,125 2,190 0,225", "a:4take a|3drop a;"},
        {"8 -1 3 10", "2,4 2,1 6,4 5,4 3,3 4,3 5,1 5,2 0,6 0,2 2,4 1,5", "",
            "a:4take a|4drop d;b:1take b|3drop c;c:1take d|0drop c;d:0take c|2drop d;"},
        {"7 -1 7 20", "3,1 1,6 5,3 5,6 3,6 3,2 0,3 0,3 1,2 4,4 5,5 4,6", "6,119 5,251",
            "a:1take d|0drop d;b:0take a|2drop b;c:0take a|2drop a;d:2take c|1drop c;"},
        {"8 7 7 4", "1,7 5,0 2,5 2,6 3,5 5,4 4,5 3,2 4,1 5,3 6,0", "0,1", "a:4take a|1drop b;b:2take b|2drop a;c:3take a|4drop c;"},
        {"7 6 8 21", "5,6 2,0 4,3 2,4 5,1 4,5 0,4 4,0 5,3 4,5 5,1 3,2", "0,8", "a:0take b|4drop a;b:3take a|1drop b;"},
        {"7 6 8 13", "1,6 4,5 3,2 1,4 2,3 3,2 3,0 2,1 2,4 3,0 4,5", "0,16", "a:0take b|3drop c;b:3take c|1drop b;c:1take a|0drop a;"},
        {"7 6 7 6", "1,6 2,5 3,3 0,2 2,1 2,3 1,3 4,5 0,3 4,2", "0,4", "a:0take b|3drop a;b:4take a|3drop b;"},
    };

    /** Of each of them: what walk() answers, then BEAT, LEAD and LAP. */
    private static final int[][] ANSWERS_AT_LIMITS = {
        {1, -1, 0, 1500}, {1, -1, 1464, 36}, {1, -1, 226, 1274}, {2, -1, -1, -1}, {2, -1, -1, -1}, {0, 1499, -1, -1},
        {0, 1500, -1, -1}, {2, -1, -1, -1}, {2, -1, -1, -1},
    };

    private static int wrong = 0;
    private static final Map<String, Integer> seen = new HashMap<>();

    public static void main(String[] args) {
        int runs = args.length > 0 ? Integer.parseInt(args[0]) : RUNS;
        int from = args.length > 1 ? Integer.parseInt(args[1]) : 0;
        for (int i = 0; i < LIMITS.length; i++) {
            new Run(-1 - i).goToLimit(LIMITS[i], ANSWERS_AT_LIMITS[i]);
        }
        for (int run = from; run < from + runs && wrong < 3; run++) {
            if (run % 10 == 9) {
                new Run(run).goFar();
            } else {
                new Run(run).go();
            }
        }
        for (String kind : new String[] {"walk 0", "walk 1", "walk 2", "help 0 0", "help 0 1", "help 0 2", "help 1 0", "help 1 1",
            "help 1 2", "help 0 -1", "help 1 -1", "home -1", "home 0", "home 2", "home 3", "home 4", "home 5", "fault 1",
            "fault 2", "fault 3", "fault 4", "fault 0"}) {
            if (runs >= RUNS && !seen.containsKey(kind)) {
                wrong++;
                System.out.println("no run came to: " + kind);
            }
        }
        System.out.println(seen);
        System.out.println(wrong == 0 ? "all answers are as due" : wrong + " answers are not as due");
        if (wrong != 0) {
            System.exit(1);
        }
    }

    /** A PATH's END: which PATH, and whether it is the second one. */
    private static final class End {
        final Way way;
        final int junction;
        End other;

        End(Way way, int junction) {
            this.way = way;
            this.junction = junction;
        }
    }

    private static final class Way {
        final int number;
        int gate = 255;
        boolean shut = false;

        Way(int number) {
            this.number = number;
        }
    }

    private static final class Act {
        int number;
        String deed;
        char state;
    }

    private static final class Line {
        char state;
        Act first;
        Act second;
    }

    private static final class Fault extends RuntimeException {
        private static final long serialVersionUID = 1;
        final int kind;
        final int at;

        Fault(int kind, int at) {
            this.kind = kind;
            this.at = at;
        }
    }

    private static final class Model {
        final List<Boolean> outs = new ArrayList<>();
        final Set<Integer> marks = new HashSet<>();
        final List<List<End>> rings = new ArrayList<>();
        final List<Way> ways = new ArrayList<>();
        int period = 1;
        String tape = "";
        List<Line> lines = new ArrayList<>();
        int fault = 0;
        int faultAt = -1;
        int[] walked = {-1, -1, -1, -1, -1, -1};
        List<Integer> helped = new ArrayList<>();
        List<Integer> homing = new ArrayList<>();
        List<Integer> tale = null;
        List<Integer> taleSeen = new ArrayList<>();

        List<End> places() {
            List<End> all = new ArrayList<>();
            for (List<End> ring : rings) {
                all.addAll(ring);
            }
            return all;
        }

        int rules(int n) {
            if (n < 0 || n > tape.length()) {
                return -2;
            }
            String text = tape.substring(0, n);
            tape = "";
            try {
                lines = parse(text);
                fault = 0;
                faultAt = -1;
                return lines.size();
            } catch (Fault f) {
                fault = f.kind;
                faultAt = f.at;
                return -1;
            }
        }

        /** Tokens with their places; the last one is the text's end. */
        static List<Object[]> tokens(String text) {
            List<Object[]> all = new ArrayList<>();
            java.util.regex.Matcher m = java.util.regex.Pattern.compile("[a-z]+|[0-9]+|[^a-z0-9 \n]", java.util.regex.Pattern.DOTALL)
                .matcher(text);
            while (m.find()) {
                all.add(new Object[] {m.group(), m.start()});
            }
            all.add(new Object[] {"", text.length()});
            return all;
        }

        static List<Line> parse(String text) {
            List<Object[]> tokens = tokens(text);
            List<Line> told = new ArrayList<>();
            String letters = "";
            List<Object[]> meant = new ArrayList<>();
            int i = 0;
            while (!tokens.get(i)[0].equals("")) {
                Line line = new Line();
                String s = want(tokens, i, "[a-d]");
                if (letters.contains(s)) {
                    throw new Fault(3, (Integer) tokens.get(i)[1]);
                }
                letters += s;
                line.state = s.charAt(0);
                want(tokens, i + 1, ":");
                line.first = act(tokens, i + 2, meant);
                i += 5;
                if (want(tokens, i, "[|;]").equals("|")) {
                    line.second = act(tokens, i + 1, meant);
                    i += 4;
                    want(tokens, i, ";");
                }
                i++;
                told.add(line);
            }
            for (Object[] m : meant) {
                if (!letters.contains((String) m[0])) {
                    throw new Fault(4, (Integer) m[1]);
                }
            }
            return told;
        }

        static Act act(List<Object[]> tokens, int i, List<Object[]> meant) {
            Act act = new Act();
            String number = want(tokens, i, "[0-9]+");
            if (new java.math.BigInteger(number).bitLength() > 8 || Integer.parseInt(number) > 9) {
                throw new Fault(2, (Integer) tokens.get(i)[1]);
            }
            act.number = Integer.parseInt(number);
            act.deed = want(tokens, i + 1, "stay|take|drop");
            act.state = want(tokens, i + 2, "[a-d]").charAt(0);
            meant.add(tokens.get(i + 2));
            return act;
        }

        static String want(List<Object[]> tokens, int i, String pattern) {
            String token = (String) tokens.get(i)[0];
            if (!token.matches(pattern)) {
                throw new Fault(1, (Integer) tokens.get(i)[1]);
            }
            return token;
        }

        int path(int a, int b) {
            if (a < 0 || b < 0 || a >= outs.size() || b >= outs.size() || ways.size() == 12) {
                return -1;
            }
            int roomA = 6 - rings.get(a).size();
            int roomB = 6 - rings.get(b).size();
            if (a == b ? roomA < 2 : roomA < 1 || roomB < 1) {
                return -1;
            }
            Way way = new Way(ways.size());
            ways.add(way);
            End first = new End(way, a);
            End second = new End(way, b);
            first.other = second;
            second.other = first;
            rings.get(a).add(first);
            rings.get(b).add(second);
            tale = null;
            return way.number;
        }

        boolean open(Way way, int beat, Set<Integer> shutToo) {
            return !way.shut && !shutToo.contains(way.number) && (way.gate >> beat % period) % 2 == 1;
        }

        /** The six rows of walked(), and what walk() answers behind them. */
        int[] walkFrom(End start, Set<Integer> marksThen, Set<Integer> shutToo) {
            Map<List<Object>, Integer> known = new HashMap<>();
            Set<Integer> lying = new HashSet<>(marksThen);
            char state = lines.get(0).state;
            End at = start;
            List<End> places = places();
            for (int beat = 0; beat <= 1500; beat++) {
                int where = places.indexOf(at);
                if (outs.get(at.junction)) {
                    return new int[] {beat, -1, -1, where, state - 'a', lying.size(), 0};
                }
                List<Object> now = Arrays.asList(where, state, new HashSet<>(lying), beat % period);
                if (known.containsKey(now)) {
                    int lead = known.get(now);
                    return new int[] {-1, lead, beat - lead, where, state - 'a', lying.size(), 1};
                }
                known.put(now, beat);
                if (beat == 1500) {
                    return new int[] {-1, -1, -1, where, state - 'a', lying.size(), 2};
                }
                Act act = null;
                for (Line line : lines) {
                    if (line.state == state) {
                        act = line.second == null || lying.contains(at.junction) ? line.first : line.second;
                    }
                }
                if (act.deed.equals("take")) {
                    lying.remove(at.junction);
                } else if (act.deed.equals("drop")) {
                    lying.add(at.junction);
                }
                state = act.state;
                End by = chosen(at, act.number, beat, shutToo);
                at = by == null ? at : by.other;
            }
            throw new IllegalStateException();
        }

        End chosen(End at, int number, int beat, Set<Integer> shutToo) {
            List<End> ring = rings.get(at.junction);
            if (number == 0 && open(at.way, beat, shutToo)) {
                return at;
            }
            int here = ring.indexOf(at);
            int further = 0;
            for (int i = here + 1; i < here + 1 + 60; i++) {
                End end = ring.get(i % ring.size());
                if (open(end.way, beat, shutToo)) {
                    further++;
                    if (further >= number) {
                        return end;
                    }
                }
            }
            return null;
        }

        int walk(int place) {
            List<End> places = places();
            if (lines.isEmpty() || place < 0 || place >= places.size()) {
                return -1;
            }
            int[] rows = walkFrom(places.get(place), marks, new HashSet<>());
            walked = Arrays.copyOf(rows, 6);
            return rows[6];
        }

        long lostWith(Set<Integer> marksToo, Set<Integer> shutToo) {
            Set<Integer> lying = new HashSet<>(marks);
            lying.addAll(marksToo);
            long bits = 0;
            List<End> places = places();
            for (int i = 0; i < places.size(); i++) {
                if (walkFrom(places.get(i), lying, shutToo)[6] != 0) {
                    bits += 1L << i;
                }
            }
            return bits;
        }

        long lost() {
            return lines.isEmpty() ? -1 : lostWith(new HashSet<>(), new HashSet<>());
        }

        int help(int what) {
            if (lines.isEmpty() || what < 0 || what > 1) {
                return -1;
            }
            List<Integer> free = new ArrayList<>();
            for (int i = 0; i < (what == 0 ? outs.size() : ways.size()); i++) {
                if (what == 0 ? !marks.contains(i) : !ways.get(i).shut) {
                    free.add(i);
                }
            }
            List<List<Integer>> sets = new ArrayList<>();
            sets.add(new ArrayList<>());
            for (int a : free) {
                sets.add(Arrays.asList(a));
            }
            for (int a : free) {
                for (int b : free) {
                    if (a < b) {
                        sets.add(Arrays.asList(a, b));
                    }
                }
            }
            for (List<Integer> set : sets) {
                Set<Integer> none = new HashSet<>();
                long bits = what == 0 ? lostWith(new HashSet<>(set), none) : lostWith(none, new HashSet<>(set));
                if (bits == 0) {
                    helped = set;
                    return set.size();
                }
            }
            return -1;
        }

        End beyond(End at, int turn) {
            List<End> ring = rings.get(at.junction);
            return ring.get((ring.indexOf(at) + turn) % ring.size()).other;
        }

        long here() {
            List<End> places = places();
            long bits = 0;
            for (End start : places) {
                End at = start;
                boolean fits = rings.get(at.junction).size() == taleSeen.get(0);
                for (int i = 0; i < tale.size(); i++) {
                    at = beyond(at, tale.get(i));
                    fits &= rings.get(at.junction).size() == taleSeen.get(i + 1);
                }
                if (fits) {
                    bits |= 1L << places.indexOf(at);
                }
            }
            return bits;
        }

        long tale(int ends) {
            if (ends < 0 || ends > 6) {
                return -1;
            }
            tale = new ArrayList<>();
            taleSeen = new ArrayList<>();
            taleSeen.add(ends);
            return here();
        }

        long turn(int k, int ends) {
            if (tale == null || k < 0 || k > 9 || ends < 0 || ends > 6 || tale.size() == 8) {
                return -1;
            }
            tale.add(k);
            taleSeen.add(ends);
            return here();
        }

        int home() {
            List<End> places = places();
            for (int length = 0; length <= 5; length++) {
                int all = (int) Math.round(Math.pow(6, length));
                for (int m = 0; m < all; m++) {
                    List<Integer> turns = new ArrayList<>();
                    int rest = m;
                    for (int i = 0; i < length; i++) {
                        turns.add(0, rest % 6);
                        rest /= 6;
                    }
                    if (tells(places, turns)) {
                        homing = turns;
                        return length;
                    }
                }
            }
            return -1;
        }

        boolean tells(List<End> places, List<Integer> turns) {
            Map<String, End> known = new HashMap<>();
            for (End start : places) {
                End at = start;
                StringBuilder sight = new StringBuilder().append(rings.get(at.junction).size());
                for (int turn : turns) {
                    at = beyond(at, turn);
                    sight.append(rings.get(at.junction).size());
                }
                End before = known.put(sight.toString(), at);
                if (before != null && before != at) {
                    return false;
                }
            }
            return true;
        }

        int look(int place, int what) {
            List<End> places = places();
            if (place < 0 || place >= places.size()) {
                throw new IndexOutOfBoundsException();
            }
            End at = places.get(place);
            switch (what) {
                case 0: return at.junction;
                case 1: return rings.get(at.junction).indexOf(at);
                case 2: return at.way.number;
                case 3: return places.indexOf(at.other);
                default: throw new NoSuchElementException();
            }
        }

        int count(int what) {
            switch (what) {
                case 0: return outs.size();
                case 1: return ways.size();
                case 2: return places().size();
                case 3: return marks.size();
                case 4: return tale == null ? -1 : tale.size();
                case 5: return lines.size();
                default: return -1;
            }
        }

        void anew() {
            outs.clear();
            marks.clear();
            rings.clear();
            ways.clear();
            period = 1;
            tale = null;
        }
    }

    private static final class Run {
        final int number;
        final Random random;
        final LabyrinthGarden x = new LabyrinthGarden();
        final Model model = new Model();
        final StringBuilder log = new StringBuilder();
        boolean broken = false;
        int calls = 0;

        Run(int number) {
            this.number = number;
            this.random = new Random(7919L * number + 17);
        }

        void go() {
            calls = 0;
            int gardens = 1 + random.nextInt(3);
            for (int g = 0; g < gardens && !broken && calls < 360; g++) {
                lay();
                writeRules(random.nextInt(10) < 8);
                int asks = 10 + random.nextInt(30);
                for (int i = 0; i < asks && !broken && calls < 420; i++) {
                    ask();
                }
                if (random.nextInt(4) != 0) {
                    x.anew();
                    model.anew();
                    log.append("anew(); ");
                }
            }
        }

        void goToLimit(String[] garden, int[] due) {
            String[] head = garden[0].split(" ");
            for (int i = 0; i < Integer.parseInt(head[0]); i++) {
                layJunction(i == Integer.parseInt(head[1]));
            }
            for (String ends : garden[1].split(" ")) {
                int a = Integer.parseInt(ends.split(",")[0]);
                int b = Integer.parseInt(ends.split(",")[1]);
                same("path(" + ends + ")", x.path(a, b), model.path(a, b));
            }
            for (String gate : garden[2].isEmpty() ? new String[0] : garden[2].split(" ")) {
                int path = Integer.parseInt(gate.split(",")[0]);
                model.ways.get(path).gate = Integer.parseInt(gate.split(",")[1]);
                same("gate(" + gate + ")", x.gate(path, model.ways.get(path).gate) ? 1 : 0, 1);
            }
            model.period = Integer.parseInt(head[2]);
            same("period(" + model.period + ")", x.period(model.period) ? 1 : 0, 1);
            send(garden[3], true);
            int place = Integer.parseInt(head[3]);
            askWalk(place);
            same("walk(" + place + ") at the limit", x.walk(place), due[0]);
            for (int what = 0; what < 3; what++) {
                same("walked(" + what + ") at the limit", x.walked(what), due[what + 1]);
            }
            same("lost()", x.lost(), model.lost());
        }

        /** Long WALKS: who turns every mark about, with GATES, comes again late. */
        void goFar() {
            int junctions = 5 + random.nextInt(4);
            for (int i = 0; i < junctions; i++) {
                layJunction(i == junctions - 1);
            }
            int to = junctions - 1;
            same("path(0," + to + ")", x.path(0, to), model.path(0, to));
            for (int i = 1; i < 12; i++) {
                int a = random.nextInt(junctions - 1);
                int b = random.nextInt(junctions - 1);
                same("path(" + a + "," + b + ")", x.path(a, b), model.path(a, b));
            }
            layPeriod();
            layGate();
            layGate();
            int closed = 1 << random.nextInt(8);
            model.ways.get(0).gate = closed;
            same("gate(0," + closed + ")", x.gate(0, closed) ? 1 : 0, 1);
            int states = 1 + random.nextInt(3);
            StringBuilder text = new StringBuilder();
            for (char letter = 'a'; letter < 'a' + states; letter++) {
                text.append(letter).append(':').append(random.nextInt(5)).append("take ").append((char) ('a' + random.nextInt(states)));
                text.append('|').append(random.nextInt(5)).append("drop ").append((char) ('a' + random.nextInt(states))).append(';');
            }
            send(text.toString(), true);
            for (int i = 0; i < 8 && !broken; i++) {
                askWalk(random.nextInt(model.count(2)));
                layMark();
            }
            same("lost()", x.lost(), model.lost());
        }

        void same(String call, long got, long want) {
            calls++;
            log.append(call).append(" = ").append(want).append("; ");
            if (got != want && !broken) {
                broken = true;
                wrong++;
                System.out.println("run " + number + ": " + log + " BUT ANSWERED " + got);
            }
        }

        void note(String kind) {
            seen.merge(kind, 1, Integer::sum);
        }

        int odd(int limit) {
            int[] odds = {-1, limit, limit + 1, Integer.MIN_VALUE, Integer.MAX_VALUE, 32, 64, -32};
            return random.nextInt(12) == 0 ? odds[random.nextInt(odds.length)] : random.nextInt(Math.max(1, limit));
        }

        void lay() {
            int junctions = random.nextInt(3) == 0 ? random.nextInt(10) : 2 + random.nextInt(4);
            int outs = random.nextInt(5);
            for (int i = 0; i < junctions; i++) {
                layJunction(random.nextInt(6) < outs && random.nextInt(2) == 0);
            }
            int paths = random.nextInt(4) == 0 ? 13 : 1 + random.nextInt(8);
            for (int i = 0; i < paths; i++) {
                layPath();
            }
            int gates = random.nextInt(4);
            for (int i = 0; i < gates; i++) {
                layGate();
            }
            if (random.nextBoolean()) {
                layPeriod();
            }
            int marks = random.nextInt(4);
            for (int i = 0; i < marks; i++) {
                layMark();
            }
        }

        void layJunction(boolean out) {
            int want = -1;
            if (model.outs.size() < 8) {
                want = model.outs.size();
                model.outs.add(out);
                model.rings.add(new ArrayList<>());
            }
            same("junction(" + out + ")", x.junction(out), want);
        }

        void layPath() {
            int a = odd(model.outs.size());
            int b = random.nextInt(6) == 0 ? a : odd(model.outs.size());
            same("path(" + a + "," + b + ")", x.path(a, b), model.path(a, b));
        }

        void layGate() {
            int path = odd(model.ways.size());
            int bits = random.nextInt(10) == 0 ? odd(256) : random.nextInt(256) | random.nextInt(256);
            boolean good = path >= 0 && path < model.ways.size() && bits >= 0 && bits < 256;
            if (good) {
                model.ways.get(path).gate = bits;
            }
            same("gate(" + path + "," + bits + ")", x.gate(path, bits) ? 1 : 0, good ? 1 : 0);
        }

        void layPeriod() {
            int beats = random.nextInt(6) == 0 ? odd(9) : 1 + random.nextInt(8);
            boolean good = beats >= 1 && beats <= 8;
            if (good) {
                model.period = beats;
            }
            same("period(" + beats + ")", x.period(beats) ? 1 : 0, good ? 1 : 0);
        }

        void layMark() {
            int junction = odd(model.outs.size());
            boolean on = random.nextInt(3) != 0;
            boolean good = junction >= 0 && junction < model.outs.size();
            if (good && on) {
                model.marks.add(junction);
            } else if (good) {
                model.marks.remove(junction);
            }
            same("mark(" + junction + "," + on + ")", x.mark(junction, on) ? 1 : 0, good ? 1 : 0);
        }

        void layShut() {
            int path = odd(model.ways.size());
            boolean on = random.nextInt(3) == 0;
            boolean good = path >= 0 && path < model.ways.size();
            if (good) {
                model.ways.get(path).shut = on;
            }
            same("shut(" + path + "," + on + ")", x.shut(path, on) ? 1 : 0, good ? 1 : 0);
        }

        String blank() {
            String[] blanks = {"", " ", "", "\n", "  ", " \n "};
            return blanks[random.nextInt(blanks.length)];
        }

        String actText(int states, int wild) {
            String[] deeds = {"stay", "take", "drop", "drop"};
            int number = random.nextInt(5) == 0 ? random.nextInt(10) : random.nextInt(4);
            char state = (char) ('a' + random.nextInt(states));
            if (wild > 0 && random.nextInt(wild) == 0) {
                state = (char) ('a' + random.nextInt(5));
            }
            return blank() + number + blank() + deeds[random.nextInt(4)] + (random.nextBoolean() ? " " : "\n") + state + blank();
        }

        void writeRules(boolean good) {
            int states = 1 + random.nextInt(4);
            List<Character> letters = new ArrayList<>(Arrays.asList('a', 'b', 'c', 'd').subList(0, states));
            java.util.Collections.shuffle(letters, random);
            StringBuilder text = new StringBuilder();
            for (char letter : letters) {
                text.append(blank()).append(letter).append(blank()).append(':').append(actText(states, good ? 0 : 4));
                if (random.nextInt(3) != 0) {
                    text.append('|').append(actText(states, good ? 0 : 4));
                }
                text.append(';');
            }
            text.append(blank());
            if (!good) {
                spoil(text);
            }
            send(text.toString(), good);
        }

        void spoil(StringBuilder text) {
            String[] bits = {"a", "b", "e", "z", "ab", ":", "|", ";", "10", "9", "0", "stay", "take", "\t", "\r", "A", "\u00ff", "\0",
                " ", "\n", "a:", "b: 1 drop a;", "007", "99999999999999", "{", "`", "/"};
            int times = random.nextInt(3);
            for (int i = 0; i < times; i++) {
                int at = random.nextInt(text.length() + 1);
                switch (random.nextInt(3)) {
                    case 0:
                        text.insert(at, bits[random.nextInt(bits.length)]);
                        break;
                    case 1:
                        if (at < text.length()) {
                            text.deleteCharAt(at);
                        }
                        break;
                    default:
                        if (random.nextInt(3) == 0) {
                            text.setLength(Math.max(1, at));
                        } else {
                            text.append(bits[random.nextInt(bits.length)]);
                        }
                        break;
                }
            }
        }

        void send(String text, boolean whole) {
            for (int i = 0; i < text.length(); i += 20) {
                feed(text, i);
            }
            int n = text.length();
            if (!whole && random.nextInt(6) == 0) {
                n = random.nextInt(4) == 0 ? odd(n + 30) : random.nextInt(n + 20);
            }
            same("rules(" + n + ") of <" + text + ">", x.rules(n), model.rules(n));
            same("fault(0)", x.fault(0), model.fault);
            same("fault(1)", x.fault(1), model.faultAt);
            note("fault " + model.fault);
        }

        void feed(String text, int from) {
            StringBuilder twenty = new StringBuilder();
            int[] fives = new int[5];
            for (int i = 0; i < 20; i++) {
                char sign = from + i < text.length() ? text.charAt(from + i) : (char) random.nextInt(256);
                twenty.append(sign);
                fives[i / 4] |= sign << 24 - i % 4 * 8;
            }
            int want = -1;
            if (model.tape.length() <= 280) {
                model.tape += twenty;
                want = model.tape.length();
            }
            same("feed", x.feed(fives[0], fives[1], fives[2], fives[3], fives[4]), want);
        }

        void ask() {
            int places = model.count(2);
            switch (random.nextInt(20)) {
                case 0:
                    layMark();
                    break;
                case 1:
                    layShut();
                    break;
                case 2:
                    if (random.nextInt(3) == 0) {
                        layPath();
                    } else {
                        layGate();
                    }
                    break;
                case 3:
                    if (random.nextInt(4) == 0) {
                        layJunction(random.nextInt(4) == 0);
                    } else {
                        layPeriod();
                    }
                    break;
                case 4:
                    writeRules(random.nextInt(3) != 0);
                    break;
                case 5:
                    same("lost()", x.lost(), model.lost());
                    break;
                case 6:
                    askHelp();
                    break;
                case 7:
                    askHome();
                    break;
                case 8:
                    askLook(odd(places), odd(4));
                    break;
                case 9:
                    askPlace();
                    break;
                case 10:
                case 11:
                case 12:
                    askTale();
                    break;
                case 13:
                    for (int what = -1; what < 7; what++) {
                        same("count(" + what + ")", x.count(what), model.count(what));
                    }
                    break;
                default:
                    askWalk(odd(places));
                    break;
            }
        }

        void askWalk(int place) {
            int want = model.walk(place);
            same("walk(" + place + ")", x.walk(place), want);
            for (int what = -1; what < 7; what++) {
                same("walked(" + what + ")", x.walked(what), what < 0 || what > 5 ? -1 : model.walked[what]);
            }
            note("walk " + want);
        }

        void askHelp() {
            int what = random.nextInt(10) == 0 ? odd(2) : random.nextInt(2);
            int want = model.help(what);
            same("help(" + what + ")", x.help(what), want);
            for (int k = -1; k < 4; k++) {
                same("helped(" + k + ")", x.helped(k), k < 0 || k >= model.helped.size() ? -1 : model.helped.get(k));
            }
            note("help " + what + " " + want);
        }

        void askHome() {
            int want = model.home();
            same("home()", x.home(), want);
            for (int k = -1; k < 7; k++) {
                same("homing(" + k + ")", x.homing(k), k < 0 || k >= model.homing.size() ? -1 : model.homing.get(k));
            }
            note("home " + want);
        }

        void askPlace() {
            int junction = odd(model.outs.size());
            int end = odd(6);
            int want = -1;
            if (junction >= 0 && junction < model.outs.size() && end >= 0 && end < model.rings.get(junction).size()) {
                want = model.places().indexOf(model.rings.get(junction).get(end));
            }
            same("place(" + junction + "," + end + ")", x.place(junction, end), want);
        }

        void askTale() {
            if (random.nextInt(5) == 0) {
                int ends = random.nextInt(6) == 0 ? odd(7) : random.nextInt(5);
                same("tale(" + ends + ")", x.tale(ends), model.tale(ends));
                return;
            }
            for (int i = random.nextInt(6); i >= 0; i--) {
                int k = random.nextInt(9) == 0 ? odd(10) : random.nextInt(10);
                int ends = random.nextInt(9) == 0 ? odd(7) : 1 + random.nextInt(4);
                same("turn(" + k + "," + ends + ")", x.turn(k, ends), model.turn(k, ends));
            }
        }

        void askLook(int place, int what) {
            long want;
            try {
                want = model.look(place, what);
            } catch (IndexOutOfBoundsException e) {
                want = -1001;
            } catch (NoSuchElementException e) {
                want = -1002;
            }
            long got;
            try {
                got = x.look(place, what);
            } catch (IndexOutOfBoundsException e) {
                got = -1001;
            } catch (NoSuchElementException e) {
                got = -1002;
            }
            same("look(" + place + "," + what + ")", got, want);
        }
    }
}

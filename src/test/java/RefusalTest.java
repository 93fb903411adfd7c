import java.util.ArrayList;
import java.util.HashMap;
import java.util.List;
import java.util.Map;
import java.util.NoSuchElementException;

/**
 * Every call that the document refuses, with numbers just outside its bounds and far from them: its answer, and that all
 * is behind it as it was. To see that, two objects are made by the same calls, one of them is given the refused call too,
 * and then everything that can be asked must be answered alike.
 */
public final class RefusalTest {
    private static final int INDEX = -1001;
    private static final int ELEMENT = -1002;
    private static final int BLANKS = 0x20202020;

    private static int wrong = 0;
    private static int refusals = 0;
    private static final Map<String, String> toldWithout = new HashMap<>();

    private interface Call {
        long on(LabyrinthGarden x);
    }

    /** A call with the number that is out of its bounds. */
    private interface CallWith {
        long on(LabyrinthGarden x, int n);
    }

    public static void main(String[] args) {
        theyAreAsSaid();
        nothingIsOverlooked();
        promise2Feed();
        promise3Rules();
        promise4Fault();
        promise6Junction();
        promise7Path();
        promises8To11();
        promise12Place();
        promise13Walk();
        promise14Walked();
        promise15Lost();
        promise16Help();
        promises17And21();
        promise18Tale();
        promise19Turn();
        promise20Home();
        promise22Look();
        promise23Count();
        System.out.println(refusals + " refused calls");
        System.out.println(wrong == 0 ? "all answers are as due" : wrong + " answers are not as due");
        if (wrong != 0) {
            System.exit(1);
        }
    }

    private static void fail(String text) {
        wrong++;
        System.out.println(text);
    }

    private static int read(LabyrinthGarden x, String text) {
        for (int i = 0; i < text.length(); i += 20) {
            feed(x, text.substring(i, Math.min(text.length(), i + 20)));
        }
        return x.rules(text.length());
    }

    private static int feed(LabyrinthGarden x, String text) {
        return x.feed(four(text, 0), four(text, 4), four(text, 8), four(text, 12), four(text, 16));
    }

    private static int four(String text, int from) {
        int number = 0;
        for (int i = from; i < from + 4; i++) {
            number = number << 8 | (i < text.length() ? text.charAt(i) & 255 : ' ');
        }
        return number;
    }

    private static int lookAt(LabyrinthGarden x, int place, int what) {
        try {
            return x.look(place, what);
        } catch (IndexOutOfBoundsException e) {
            return INDEX;
        } catch (NoSuchElementException e) {
            return ELEMENT;
        }
    }

    /** Numbers below low and above high: the nearest, those that a row's wrap-around would bring back, and the farthest. */
    private static List<Integer> outside(int low, int high) {
        List<Integer> numbers = new ArrayList<>();
        for (int n : new int[] {Integer.MIN_VALUE, Integer.MIN_VALUE + 1, low - 65536, low - 256, low - 32, low - 2, low - 1, high + 1,
            high + 2, low + 8, low + 32, low + 64, low + 256, low + 65536, Integer.MAX_VALUE - 1, Integer.MAX_VALUE}) {
            if (n < low || n > high) {
                numbers.add(n);
            }
        }
        return numbers;
    }

    private static LabyrinthGarden made(String kind) {
        switch (kind) {
            case "new":
                return new LabyrinthGarden();
            case "busy":
                return busy();
            case "without RULES":
                LabyrinthGarden x = busy();
                x.rules(0);
                return x;
            case "without a TALE":
                LabyrinthGarden y = busy();
                y.path(2, 3);
                return y;
            case "crowded":
                return crowded();
            default:
                return full();
        }
    }

    /** 0, 1, 2 in a ring of PATHS 0, 1, 2; PATH 3 leads from 0 to 3, which is OUT. Something is told by every call. */
    private static LabyrinthGarden busy() {
        LabyrinthGarden x = new LabyrinthGarden();
        for (int i = 0; i < 4; i++) {
            x.junction(i == 3);
        }
        x.path(0, 1);
        x.path(1, 2);
        x.path(2, 0);
        x.path(0, 3);
        read(x, "a: 1 stay a;");
        x.help(1);
        x.home();
        x.walk(2);
        read(x, "b: 1 take c | 0 drop b; c: 2 stay b; a: 1 stay a;");
        read(x, "b: 10");
        x.period(3);
        x.gate(0, 6);
        x.gate(3, 3);
        x.gate(2, 0xF5);
        x.shut(1, true);
        x.mark(2, true);
        x.tale(2);
        x.turn(1, 2);
        feed(x, "d: 1 stay d | 0 take");
        feed(x, " d;");
        return x;
    }

    /** 8 JUNCTIONS, 12 PATHS, a TAPE of 300 bytes, a TALE of 8 TURNS; JUNCTIONS 6 and 7 have ENDS to spare. */
    private static LabyrinthGarden full() {
        LabyrinthGarden x = new LabyrinthGarden();
        for (int i = 0; i < 8; i++) {
            x.junction(i == 5);
        }
        for (int i = 0; i < 12; i++) {
            x.path(i % 7, (i * i + 1) % 6);
        }
        read(x, "a: 2 take b | 1 drop a; b: 1 stay a;");
        x.mark(1, true);
        x.period(2);
        x.gate(4, 2);
        x.walk(3);
        x.tale(2);
        for (int i = 0; i < 8; i++) {
            x.turn(i, i == 0 ? 4 : 5);
        }
        for (int i = 0; i < 15; i++) {
            feed(x, i == 0 ? "c: 1 drop c | 2 take" : i == 1 ? " c;" : "");
        }
        return x;
    }

    /** JUNCTION 0 has 6 ENDS, 1 has 5, 2 has 4, 3 has 1; a TALE is begun. */
    private static LabyrinthGarden crowded() {
        LabyrinthGarden x = new LabyrinthGarden();
        for (int i = 0; i < 4; i++) {
            x.junction(i == 3);
        }
        x.path(0, 0);
        x.path(0, 1);
        x.path(1, 2);
        x.path(2, 0);
        x.path(1, 1);
        x.path(0, 3);
        x.path(1, 2);
        x.path(0, 2);
        read(x, "a: 1 take b | 2 drop a; b: 1 stay a;");
        x.tale(4);
        return x;
    }

    /** All that can be asked, first what changes nothing, then the rest; at most some 330 calls. */
    private static String tell(LabyrinthGarden x) {
        StringBuilder t = new StringBuilder();
        tellKept(x, t);
        int places = x.count(2);
        for (int place = 0; place < places; place++) {
            for (int what = 0; what < 4; what++) {
                t.append(' ').append(lookAt(x, place, what));
            }
        }
        t.append(" turn ").append(x.turn(1, 2)).append(' ').append(x.turn(1, 2)).append(' ').append(x.count(4));
        for (int place = 0; place < places; place++) {
            t.append(" walk ").append(x.walk(place));
            for (int what = 0; what < 6; what++) {
                t.append(' ').append(x.walked(what));
            }
        }
        t.append(" help ").append(x.help(0)).append(' ').append(x.helped(0)).append(' ').append(x.helped(1));
        t.append(" help ").append(x.help(1)).append(' ').append(x.helped(0)).append(' ').append(x.helped(1));
        t.append(" home ").append(x.home());
        int size = 300;
        int lines = x.rules(size);
        while (lines == -2) {
            size -= 20;
            lines = x.rules(size);
        }
        t.append(" tape ").append(size).append(' ').append(lines).append(' ').append(x.fault(0)).append(' ').append(x.fault(1));
        t.append(' ').append(x.lost()).append(' ').append(x.walk(0)).append(' ').append(x.walked(4));
        return t.toString();
    }

    private static void tellKept(LabyrinthGarden x, StringBuilder t) {
        t.append("fault ").append(x.fault(0)).append(' ').append(x.fault(1)).append(" walked");
        for (int what = 0; what < 6; what++) {
            t.append(' ').append(x.walked(what));
        }
        t.append(" helped ").append(x.helped(0)).append(' ').append(x.helped(1)).append(" homing");
        for (int k = 0; k < 5; k++) {
            t.append(' ').append(x.homing(k));
        }
        t.append(" count");
        for (int what = 0; what < 6; what++) {
            t.append(' ').append(x.count(what));
        }
        t.append(" lost ").append(x.lost()).append(" look");
    }

    private static String without(String kind) {
        if (!toldWithout.containsKey(kind)) {
            toldWithout.put(kind, tell(made(kind)));
        }
        return toldWithout.get(kind);
    }

    private static void refused(String kind, String name, Call call, long answer) {
        refusals++;
        LabyrinthGarden x = made(kind);
        long got = call.on(x);
        if (got != answer) {
            fail(kind + ": " + name + " answered " + got + ", due is " + answer);
        }
        String with = tell(x);
        if (!with.equals(without(kind))) {
            fail(kind + ": " + name + " is refused, but something is another behind it:\n  " + without(kind) + "\n  " + with);
        }
    }

    private static void refused(String kind, String name, List<Integer> numbers, CallWith call, long answer) {
        for (int n : numbers) {
            refused(kind, name + " with " + n, x -> call.on(x, n), answer);
        }
    }

    private static void seen(String name, Call call) {
        LabyrinthGarden x = made("busy");
        call.on(x);
        if (tell(x).equals(without("busy"))) {
            fail("this test would overlook " + name);
        }
    }

    private static void isSo(String kind, String what, long got, long due) {
        if (got != due) {
            fail(kind + " has " + what + " " + got + ", not " + due);
        }
    }

    /** The objects stand just at the bounds that their calls are to be refused for. */
    private static void theyAreAsSaid() {
        LabyrinthGarden x = made("full");
        isSo("full", "JUNCTIONS", x.count(0), 8);
        isSo("full", "PATHS", x.count(1), 12);
        isSo("full", "TURNS", x.count(4), 8);
        isSo("full", "room at 6", x.place(6, 5), -1);
        isSo("full", "room at 7", x.place(7, 0), -1);
        isSo("full", "bytes: 300", x.rules(300), 1);
        LabyrinthGarden y = made("crowded");
        int[] ends = {6, 5, 4, 1};
        for (int j = 0; j < 4; j++) {
            isSo("crowded", "the last END of " + j, lookAt(y, y.place(j, ends[j] - 1), 1), ends[j] - 1);
            isSo("crowded", "an END more at " + j, y.place(j, ends[j]), -1);
        }
        isSo("crowded", "at one with 5 a PATH", y.path(1, 3), 8);
        isSo("crowded", "at one with 4 a PATH", y.path(2, 2), 9);
        LabyrinthGarden z = made("busy");
        isSo("busy", "bytes: 40", z.rules(40), 1);
        isSo("busy", "to SHUT", z.helped(0), 0);
        isSo("busy", "TURNS", z.count(4), 1);
    }

    /** Calls that do change something must show in what tell() asks, else it would prove nothing. */
    private static void nothingIsOverlooked() {
        seen("feed", x -> feed(x, ""));
        seen("rules", x -> x.rules(0));
        seen("rules with a fault", x -> x.rules(7));
        seen("junction", x -> x.junction(false));
        seen("path", x -> x.path(2, 3));
        for (int j = 0; j < 3; j++) {
            int junction = j;
            seen("mark", x -> x.mark(junction, junction != 2) ? 1 : 0);
        }
        for (int beats = 1; beats <= 8; beats++) {
            int n = beats;
            if (n != 3) {
                seen("period " + n, x -> x.period(n) ? 1 : 0);
            }
        }
        seen("gate", x -> x.gate(0, 7) ? 1 : 0);
        seen("gate", x -> x.gate(3, 0) ? 1 : 0);
        seen("shut", x -> x.shut(1, false) ? 1 : 0);
        seen("shut", x -> x.shut(3, true) ? 1 : 0);
        seen("walk", x -> x.walk(0));
        seen("help", x -> {
            x.mark(0, true);
            return x.help(1);
        });
        seen("tale", x -> x.tale(2));
        seen("turn", x -> x.turn(1, 2));
        seen("anew", x -> {
            x.anew();
            return 0;
        });
    }

    private static void promise2Feed() {
        refused("full", "feed", x -> x.feed(BLANKS, BLANKS, BLANKS, BLANKS, BLANKS), -1);
        refused("full", "feed", x -> x.feed(0, -1, Integer.MIN_VALUE, Integer.MAX_VALUE, 1), -1);
        refused("full", "feed twice", x -> x.feed(-1, -1, -1, -1, -1) + x.feed(0, 0, 0, 0, 0), -2);
    }

    private static void promise3Rules() {
        refused("new", "rules", outside(0, 0), (x, n) -> x.rules(n), -2);
        refused("busy", "rules", outside(0, 40), (x, n) -> x.rules(n), -2);
        refused("without RULES", "rules", outside(0, 0), (x, n) -> x.rules(n), -2);
        refused("full", "rules", outside(0, 300), (x, n) -> x.rules(n), -2);
    }

    private static void promise4Fault() {
        refused("new", "fault", outside(0, 1), (x, n) -> x.fault(n), -1);
        refused("busy", "fault", outside(0, 1), (x, n) -> x.fault(n), -1);
    }

    private static void promise6Junction() {
        refused("full", "junction", x -> x.junction(false), -1);
        refused("full", "junction", x -> x.junction(true), -1);
        refused("full", "junction four times", x -> x.junction(true) + x.junction(false) + x.junction(true) + x.junction(true), -4);
    }

    private static void promise7Path() {
        refused("new", "path", x -> x.path(0, 0), -1);
        for (int j = 0; j < 4; j++) {
            int junction = j;
            refused("busy", "path from", outside(0, 3), (x, n) -> x.path(n, junction), -1);
            refused("busy", "path to", outside(0, 3), (x, n) -> x.path(junction, n), -1);
        }
        refused("busy", "path from and to", outside(0, 3), (x, n) -> x.path(n, n), -1);
        for (int j = 0; j < 4; j++) {
            int junction = j;
            refused("crowded", "path from the one with 6 to " + j, x -> x.path(0, junction), -1);
            refused("crowded", "path to the one with 6 from " + j, x -> x.path(junction, 0), -1);
        }
        refused("crowded", "path at one with 5", x -> x.path(1, 1), -1);
        for (int a = 0; a < 8; a++) {
            int from = a;
            refused("full", "thirteenth path at " + a, x -> x.path(from, from), -1);
            refused("full", "thirteenth path from " + a, x -> x.path(from, 7), -1);
            refused("full", "thirteenth path to " + a, x -> x.path(7, from), -1);
        }
    }

    private static void promises8To11() {
        refused("new", "mark", x -> x.mark(0, true) ? 1 : 0, 0);
        refused("busy", "mark", outside(0, 3), (x, n) -> x.mark(n, true) ? 1 : 0, 0);
        refused("busy", "mark", outside(0, 3), (x, n) -> x.mark(n, false) ? 1 : 0, 0);
        refused("full", "mark", outside(0, 7), (x, n) -> x.mark(n, true) ? 1 : 0, 0);
        refused("new", "period", outside(1, 8), (x, n) -> x.period(n) ? 1 : 0, 0);
        refused("busy", "period", outside(1, 8), (x, n) -> x.period(n) ? 1 : 0, 0);
        refused("new", "gate", x -> x.gate(0, 1) ? 1 : 0, 0);
        refused("busy", "gate", outside(0, 3), (x, n) -> x.gate(n, 0) ? 1 : 0, 0);
        refused("busy", "gate", outside(0, 255), (x, n) -> x.gate(0, n) ? 1 : 0, 0);
        refused("busy", "gate", outside(0, 255), (x, n) -> x.gate(3, n) ? 1 : 0, 0);
        refused("busy", "gate", outside(0, 255), (x, n) -> x.gate(4, n) ? 1 : 0, 0);
        refused("full", "gate", outside(0, 11), (x, n) -> x.gate(n, 0) ? 1 : 0, 0);
        refused("new", "shut", x -> x.shut(0, true) ? 1 : 0, 0);
        refused("busy", "shut", outside(0, 3), (x, n) -> x.shut(n, true) ? 1 : 0, 0);
        refused("busy", "shut", outside(0, 3), (x, n) -> x.shut(n, false) ? 1 : 0, 0);
        refused("full", "shut", outside(0, 11), (x, n) -> x.shut(n, true) ? 1 : 0, 0);
    }

    private static void promise12Place() {
        int[] ends = {3, 2, 2, 1};
        refused("new", "place", x -> x.place(0, 0), -1);
        refused("busy", "place", outside(0, 3), (x, n) -> x.place(n, 0), -1);
        for (int j = 0; j < 4; j++) {
            int junction = j;
            refused("busy", "place at " + j, outside(0, ends[j] - 1), (x, n) -> x.place(junction, n), -1);
        }
        refused("full", "place at one without ENDS", outside(0, -1), (x, n) -> x.place(7, n), -1);
        refused("full", "place at one without ENDS", x -> x.place(7, 0), -1);
    }

    private static void promise13Walk() {
        refused("new", "walk", outside(0, -1), (x, n) -> x.walk(n), -1);
        refused("busy", "walk", outside(0, 7), (x, n) -> x.walk(n), -1);
        refused("full", "walk", outside(0, 23), (x, n) -> x.walk(n), -1);
        for (int p = 0; p < 8; p++) {
            int place = p;
            refused("without RULES", "walk from " + p, x -> x.walk(place), -1);
        }
    }

    private static void promise14Walked() {
        for (int what = 0; what < 6; what++) {
            int w = what;
            refused("new", "walked " + what + " ahead of any", x -> x.walked(w), -1);
        }
        refused("busy", "walked", outside(0, 5), (x, n) -> x.walked(n), -1);
    }

    private static void promise15Lost() {
        refused("new", "lost", x -> x.lost(), -1);
        refused("without RULES", "lost", x -> x.lost(), -1);
    }

    private static void promise16Help() {
        refused("new", "help", outside(0, -1), (x, n) -> x.help(n), -1);
        refused("new", "help 0", x -> x.help(0), -1);
        refused("new", "help 1", x -> x.help(1), -1);
        refused("without RULES", "help 0", x -> x.help(0), -1);
        refused("without RULES", "help 1", x -> x.help(1), -1);
        refused("busy", "help", outside(0, 1), (x, n) -> x.help(n), -1);
        refused("full", "help", outside(0, 1), (x, n) -> x.help(n), -1);
    }

    private static void promises17And21() {
        refused("new", "helped", outside(0, -1), (x, n) -> x.helped(n), -1);
        refused("new", "helped", x -> x.helped(0), -1);
        refused("busy", "helped", outside(0, 0), (x, n) -> x.helped(n), -1);
        refused("new", "homing", outside(0, -1), (x, n) -> x.homing(n), -1);
        refused("new", "homing", x -> x.homing(0), -1);
        refused("busy", "homing", outside(0, 3), (x, n) -> x.homing(n), -1);
    }

    private static void promise18Tale() {
        refused("new", "tale", outside(0, 6), (x, n) -> x.tale(n), -1);
        refused("busy", "tale", outside(0, 6), (x, n) -> x.tale(n), -1);
        refused("full", "tale", outside(0, 6), (x, n) -> x.tale(n), -1);
        refused("without a TALE", "tale", outside(0, 6), (x, n) -> x.tale(n), -1);
    }

    private static void promise19Turn() {
        refused("new", "turn without a TALE", x -> x.turn(0, 0), -1);
        refused("without a TALE", "turn", x -> x.turn(0, 2), -1);
        refused("without a TALE", "turn", x -> x.turn(9, 6), -1);
        for (int ends = 0; ends <= 6; ends++) {
            int seen = ends;
            refused("busy", "turn, to " + ends, outside(0, 9), (x, n) -> x.turn(n, seen), -1);
        }
        for (int turn = 0; turn <= 9; turn++) {
            int k = turn;
            refused("busy", "turn of " + turn + ", to", outside(0, 6), (x, n) -> x.turn(k, n), -1);
            refused("full", "ninth turn of " + turn, x -> x.turn(k, 3), -1);
        }
        refused("busy", "turn, both", outside(0, 9), (x, n) -> x.turn(n, n), -1);
    }

    /** A GARDEN without HOME: what the home() ahead of it told stays. */
    private static void promise20Home() {
        LabyrinthGarden x = made("busy");
        x.anew();
        x.junction(false);
        x.path(0, 0);
        int before = x.homing(0) + 10 * x.homing(1) + 100 * x.homing(2) + 1000 * x.homing(3);
        if (x.home() != -1 || before != 1110) {
            fail("home: a GARDEN without HOME, behind one with 0 1 1 1");
        }
        for (int k = 0; k < 5; k++) {
            int due = k == 0 ? 0 : k < 4 ? 1 : -1;
            if (x.homing(k) != due) {
                fail("homing " + k + " behind a home() of NONE is " + x.homing(k) + ", due is " + due);
            }
        }
    }

    private static void promise22Look() {
        refused("new", "look", outside(0, -1), (x, n) -> lookAt(x, n, 0), INDEX);
        refused("new", "look", x -> lookAt(x, 0, 0), INDEX);
        for (int what = 0; what < 4; what++) {
            int w = what;
            refused("busy", "look for " + what, outside(0, 7), (x, n) -> lookAt(x, n, w), INDEX);
            refused("full", "look for " + what, outside(0, 23), (x, n) -> lookAt(x, n, w), INDEX);
        }
        for (int place = 0; place < 8; place++) {
            int p = place;
            refused("busy", "look at " + place, outside(0, 3), (x, n) -> lookAt(x, p, n), ELEMENT);
        }
        refused("busy", "look at the 9th", outside(0, 3), (x, n) -> lookAt(x, 8, n), INDEX);
    }

    private static void promise23Count() {
        refused("new", "count", outside(0, 5), (x, n) -> x.count(n), -1);
        refused("busy", "count", outside(0, 5), (x, n) -> x.count(n), -1);
        refused("new", "count of TURNS without a TALE", x -> x.count(4), -1);
        refused("without a TALE", "count of TURNS", x -> x.count(4), -1);
    }
}

import java.util.NoSuchElementException;

/** Answers worked from the document, promise by promise: ordinary inputs, the edges that the document names, and wrong inputs. */
public final class PromiseTest {
    private static final int[] EDGES = {Integer.MIN_VALUE, -100, -2, -1};
    private static final int INDEX = -1001;
    private static final int ELEMENT = -1002;

    private static int wrong = 0;
    private static String about = "";

    public static void main(String[] args) {
        promise1New();
        promise2Feed();
        promise3Rules();
        promise4Faults();
        promise5Anew();
        promise6Junction();
        promise7Path();
        promise8Mark();
        promise9Period();
        promise10Gate();
        promise11Shut();
        promise12Place();
        promise13Walk();
        promise13Turning();
        promise14Walked();
        promise15Lost();
        promise16Help();
        promise17Helped();
        promise18Tale();
        promise19Turn();
        promise20Home();
        promise21Homing();
        promise22Look();
        promise23Count();
        System.out.println(wrong == 0 ? "all answers are as due" : wrong + " answers are not as due");
        if (wrong != 0) {
            System.exit(1);
        }
    }

    private static void due(String what, long got, long want) {
        if (got != want) {
            wrong++;
            System.out.println(about + ": " + what + " answered " + got + ", due is " + want);
        }
    }

    private static void due(String what, boolean got, boolean want) {
        due(what, got ? 1 : 0, want ? 1 : 0);
    }

    /** Feeds a text, filled up with zeros, and reads just its bytes. */
    private static int read(LabyrinthGarden x, String text) {
        for (int i = 0; i < text.length(); i += 20) {
            x.feed(four(text, i), four(text, i + 4), four(text, i + 8), four(text, i + 12), four(text, i + 16));
        }
        return x.rules(text.length());
    }

    private static int four(String text, int from) {
        int number = 0;
        for (int i = from; i < from + 4; i++) {
            number = number << 8 | (i < text.length() ? text.charAt(i) & 255 : 0);
        }
        return number;
    }

    private static int lookAt(LabyrinthGarden x, int place, int what) {
        try {
            return x.look(place, what);
        } catch (IndexOutOfBoundsException e) {
            return INDEX;
        } catch (NoSuchElementException e) {
            return ELEMENT;
        }
    }

    /** JUNCTIONS 0, 1, 2 in a ring of PATHS 0, 1, 2; PATH 3 leads from 0 to 3, which is OUT. */
    private static LabyrinthGarden triangle() {
        LabyrinthGarden x = new LabyrinthGarden();
        x.junction(false);
        x.junction(false);
        x.junction(false);
        x.junction(true);
        x.path(0, 1);
        x.path(1, 2);
        x.path(2, 0);
        x.path(0, 3);
        return x;
    }

    /** A star: JUNCTION 0 with PATHS to 1 .. n, of which the last is OUT if out. */
    private static LabyrinthGarden star(int n, boolean out) {
        LabyrinthGarden x = new LabyrinthGarden();
        x.junction(false);
        for (int i = 1; i <= n; i++) {
            x.junction(out && i == n);
            x.path(0, i);
        }
        return x;
    }

    private static void promise1New() {
        about = "1 new";
        LabyrinthGarden x = new LabyrinthGarden();
        due("NONE", LabyrinthGarden.NONE, -1);
        for (int what = 0; what < 4; what++) {
            due("count " + what, x.count(what), 0);
        }
        due("count 4", x.count(4), -1);
        due("count 5", x.count(5), 0);
        due("rules(1)", x.rules(1), -2);
        due("fault(0)", x.fault(0), 0);
        due("fault(1)", x.fault(1), -1);
        for (int what = 0; what < 7; what++) {
            due("walked", x.walked(what), -1);
        }
        due("helped", x.helped(0), -1);
        due("homing", x.homing(0), -1);
        due("walk", x.walk(0), -1);
        due("lost", x.lost(), -1);
        due("help 0", x.help(0), -1);
        due("help 1", x.help(1), -1);
        due("home", x.home(), 0);
        due("turn", x.turn(0, 0), -1);
        due("place", x.place(0, 0), -1);
    }

    private static void promise2Feed() {
        about = "2 feed";
        LabyrinthGarden x = new LabyrinthGarden();
        for (int i = 1; i <= 15; i++) {
            due("feed " + i, x.feed(i == 1 ? four("a:1s", 0) : 0x20202020, 0x20202020, 0x0A0A0A0A, 0x20202020, 0x20202020),
                20 * i);
        }
        due("feed 16", x.feed(0, 0, 0, 0, 0), -1);
        due("rules(301)", x.rules(301), -2);
        due("rules(300)", x.rules(300), -1);
        due("fault(0)", x.fault(0), 1);
        due("place: the s", x.fault(1), 3);
        due("feed behind", x.feed(-1, -1, -1, -1, -1), 20);
        due("rules", x.rules(20), -1);
        due("255 is no token", x.fault(1), 0);
        due("order of bytes and numbers", x.feed(four("a:3s", 0), four("tay ", 0), four("a;b:", 0), four("4dro", 0),
            four("p a;", 0)), 20);
        due("rules", x.rules(20), 2);
        for (int i = 1; i <= 15; i++) {
            x.feed(0x20202020, 0x20202020, 0x20202020, 0x20202020, 0x20202020);
        }
        due("refused", x.feed(four("a:1s", 0), 0, 0, 0, 0), -1);
        due("none came", x.rules(300), 0);
    }

    private static void promise3Rules() {
        about = "3 rules";
        LabyrinthGarden x = new LabyrinthGarden();
        due("empty", x.rules(0), 0);
        for (int n : EDGES) {
            due("below 0", x.rules(n), -2);
        }
        due("too many", x.rules(1), -2);
        due("too many", x.rules(Integer.MAX_VALUE), -2);
        due("a line", read(x, "a: 1 stay a;"), 1);
        due("four lines", read(x, "d:0stay c|9take d;c:1drop b;\n b:2 stay a | 0003 stay b ;a:4take a;"), 4);
        due("count", x.count(5), 4);
        due("a fault", read(x, "a: 1 stay a"), -1);
        due("rules stay", x.count(5), 4);
        due("tape is empty", x.rules(1), -2);
        due("tape of 20", x.feed(four("a:1s", 0), four("tay ", 0), four("a;xx", 0), 0, 0), 20);
        due("-2", x.rules(21), -2);
        due("-2", x.rules(-1), -2);
        due("tape stays", x.feed(0, 0, 0, 0, 0), 40);
        due("first bytes alone", x.rules(10), 1);
        due("the rest is gone", x.feed(0, 0, 0, 0, 0), 20);
        due("none of the tape", x.rules(0), 0);
        due("no rules", x.count(5), 0);
        due("no rules: lost", x.lost(), -1);
        due("tape is empty", x.rules(1), -2);
        due("one line", read(x, "a: 1 stay a;"), 1);
        due("blanks alone", read(x, " \n \n"), 0);
        due("no rules", x.count(5), 0);
    }

    private static void faulty(String text, int fault, int at) {
        LabyrinthGarden x = new LabyrinthGarden();
        int lines = read(x, text);
        due("rules of <" + text + ">", lines < 0 ? -1 : 0, fault == 0 ? 0 : -1);
        due("fault of <" + text + ">", x.fault(0), fault);
        due("place of <" + text + ">", x.fault(1), at);
    }

    private static void promise4Faults() {
        about = "4 fault";
        faulty("a:1stay a;", 0, -1);
        faulty("a", 1, 1);
        faulty("a ", 1, 2);
        faulty("a:", 1, 2);
        faulty("a:1", 1, 3);
        faulty("a:1 \n", 1, 5);
        faulty("a:1stay", 1, 7);
        faulty("a:1stay a", 1, 9);
        faulty("a:1stay a|", 1, 10);
        faulty("a:1stay a|2", 1, 11);
        faulty("a:1stay a|2take", 1, 15);
        faulty("a:1stay a|2take a", 1, 17);
        faulty("a:1stay a|2take a|", 1, 17);
        faulty("a:1stay a;;", 1, 10);
        faulty("a:1stay aa;", 1, 8);
        faulty("a:1stay e;", 1, 8);
        faulty("e:1stay a;", 1, 0);
        faulty("z:1stay a;", 1, 0);
        faulty("A:1stay a;", 1, 0);
        faulty("a:1Stay a;", 1, 3);
        faulty("a:1stays a;", 1, 3);
        faulty("a:1xstay a;", 1, 3);
        faulty("a:1staystay a;", 1, 3);
        faulty("a:1sta a;", 1, 3);
        faulty("a:1 s a;", 1, 4);
        faulty("a:1staya;", 1, 3);
        faulty("ab:1stay a;", 1, 0);
        faulty("stay:1stay a;", 1, 0);
        faulty("a::1stay a;", 1, 2);
        faulty("a:-1stay a;", 1, 2);
        faulty("a:1\tstay a;", 1, 3);
        faulty("a:1\rstay a;", 1, 3);
        faulty("a:1stay a,", 1, 9);
        faulty("a:1stay a{", 1, 9);
        faulty("a:1stay a`", 1, 9);
        faulty("a:1stay a/", 1, 9);
        faulty("a:1 stay 1;", 1, 9);
        faulty("a:stay a;", 1, 2);
        faulty("1:1stay a;", 1, 0);
        faulty("a:1stay a;\u00e9", 1, 10);
        faulty("a:1stay a;\0", 1, 10);
        faulty("a:9stay a;", 0, -1);
        faulty("a:09stay a;", 0, -1);
        faulty("a:0000000000000009stay a;", 0, -1);
        faulty("a:10stay a;", 2, 2);
        faulty("a: 4294967297 stay a;", 2, 3);
        faulty("a: 10000000000000000000000000000000000000000000000000 stay a;", 2, 3);
        faulty("a:1stay a|10take a;", 2, 10);
        faulty("a 10", 1, 2);
        faulty("10:1stay a;", 1, 0);
        faulty("a:10stay zz", 2, 2);
        faulty("a:1zz 10", 1, 3);
        faulty("a:1stay a;a:1stay a;", 3, 10);
        faulty("b:1stay a;a:1stay b;b:99stay a;", 3, 20);
        faulty("a:1stay b;b:10stay a;a:1stay a;", 2, 12);
        faulty("a:1stay a;b:1stay a;c:1stay a;d:1stay a;a", 3, 40);
        faulty("a:1stay b;", 4, 8);
        faulty("a:1stay b;c:1stay a|2stay d;", 4, 8);
        faulty("a:1stay b;b:1stay c|2stay d;", 4, 18);
        faulty("a:1stay c|2stay b;b:1stay a;", 4, 8);
        faulty("a:1stay b|2stay d;b:1stay a;", 4, 16);
        faulty("b:1stay c;a:1stay d;", 4, 8);
        faulty("a:1stay b;a:1stay a;", 3, 10);
        faulty("a:1stay b;c", 1, 11);
        faulty("", 0, -1);
        faulty("\n ", 0, -1);
        LabyrinthGarden x = new LabyrinthGarden();
        read(x, "a:77");
        due("-2", x.rules(1), -2);
        due("the fault stays", x.fault(0), 2);
        due("its place stays", x.fault(1), 2);
        due("another what", x.fault(2), -1);
        due("another what", x.fault(-1), -1);
        due("another what", x.fault(Integer.MIN_VALUE), -1);
        x.anew();
        due("behind anew", x.fault(0), 2);
        read(x, "a:7stay a;");
        due("gone", x.fault(0), 0);
        due("gone", x.fault(1), -1);
    }

    private static void promise5Anew() {
        about = "5 anew";
        LabyrinthGarden x = triangle();
        read(x, "a: 1 stay a;");
        x.feed(0x20202020, 0x20202020, 0x20202020, 0x20202020, 0x20202020);
        x.mark(0, true);
        x.mark(1, true);
        x.period(3);
        x.gate(0, 0);
        x.shut(1, true);
        x.walk(2);
        x.help(1);
        x.tale(2);
        x.anew();
        for (int what = 0; what < 4; what++) {
            due("count " + what, x.count(what), 0);
        }
        due("tale", x.count(4), -1);
        due("turn", x.turn(0, 0), -1);
        due("rules stay", x.count(5), 1);
        due("nobody is lost", x.lost(), 0);
        due("walk", x.walk(0), -1);
        due("place", x.place(0, 0), -1);
        due("gate", x.gate(0, 1), false);
        due("shut", x.shut(0, true), false);
        due("tape stays", x.rules(20), 0);
        read(x, "a: 1 stay a;");
        due("junction", x.junction(false), 0);
        due("junction", x.junction(false), 1);
        due("junction", x.junction(true), 2);
        due("path", x.path(0, 1), 0);
        due("path", x.path(1, 2), 1);
        due("no marks", x.count(3), 0);
        due("gate and shut are as at first", x.lost(), 0);
        x.walk(0);
        due("two steps", x.walked(0), 2);
        x.shut(0, true);
        x.walk(0);
        due("period 1: lap", x.walked(2), 1);
    }

    private static void promise6Junction() {
        about = "6 junction";
        LabyrinthGarden x = new LabyrinthGarden();
        for (int i = 0; i < 8; i++) {
            due("junction", x.junction(i % 2 == 0), i);
        }
        due("ninth", x.junction(true), -1);
        due("ninth", x.junction(false), -1);
        due("count", x.count(0), 8);
        x.tale(2);
        x.anew();
        x.tale(1);
        x.junction(true);
        due("a tale stays", x.count(4), 0);
        x.junction(false);
        x.path(0, 1);
        read(x, "a:0stay a;");
        due("out", x.walk(0), 0);
        due("at once", x.walked(0), 0);
        due("not out, but goes there", x.walk(1), 0);
        due("later", x.walked(0), 1);
    }

    private static void promise7Path() {
        about = "7 path";
        LabyrinthGarden x = new LabyrinthGarden();
        x.junction(false);
        x.junction(false);
        due("no such", x.path(0, 2), -1);
        due("no such", x.path(2, 0), -1);
        for (int n : EDGES) {
            due("no such", x.path(n, 0), -1);
            due("no such", x.path(0, n), -1);
        }
        x.tale(3);
        due("no such", x.path(0, Integer.MAX_VALUE), -1);
        due("the tale stays", x.count(4), 0);
        due("path", x.path(1, 0), 0);
        due("the tale is gone", x.count(4), -1);
        due("first place", lookAt(x, 0, 0), 0);
        due("path of both", lookAt(x, 0, 2), lookAt(x, 1, 2));
        due("path", x.path(0, 0), 1);
        due("ring: its first end", lookAt(x, 1, 3), 2);
        due("ring: its second end", lookAt(x, 2, 3), 1);
        due("numbered anew", x.place(1, 0), 3);
        due("path", x.path(0, 0), 2);
        due("five ends at 0: no loop", x.path(0, 0), -1);
        due("six ends at 0", x.path(0, 1), 3);
        due("seven at 0", x.path(1, 0), -1);
        due("seven at 0", x.path(0, 1), -1);
        due("count", x.count(1), 4);
        due("count", x.count(2), 8);
        x.anew();
        for (int i = 0; i < 8; i++) {
            x.junction(false);
        }
        for (int i = 0; i < 12; i++) {
            due("path", x.path(i % 8, (i + 1) % 8), i);
        }
        due("thirteenth", x.path(5, 6), -1);
        due("places", x.count(2), 24);
    }

    private static void promise8Mark() {
        about = "8 mark";
        LabyrinthGarden x = triangle();
        for (int n : EDGES) {
            due("none such", x.mark(n, true), false);
        }
        due("none such", x.mark(4, true), false);
        due("none such", x.mark(32, true), false);
        due("count", x.count(3), 0);
        due("on", x.mark(3, true), true);
        due("on again", x.mark(3, true), true);
        due("count", x.count(3), 1);
        due("on", x.mark(0, true), true);
        due("count", x.count(3), 2);
        due("off", x.mark(3, false), true);
        due("off again", x.mark(3, false), true);
        due("off, none there", x.mark(1, false), true);
        due("count", x.count(3), 1);
        read(x, "a:1take a|1drop a;");
        x.walk(2);
        due("the garden's stay", x.count(3), 1);
        x.lost();
        x.help(0);
        due("the garden's stay", x.count(3), 1);
    }

    private static void promise9Period() {
        about = "9 period";
        LabyrinthGarden x = triangle();
        read(x, "a:1stay a;");
        for (int i = 0; i < 4; i++) {
            x.shut(i, true);
        }
        for (int n : EDGES) {
            due("no", x.period(n), false);
        }
        due("no", x.period(0), false);
        due("no", x.period(9), false);
        due("no", x.period(Integer.MAX_VALUE), false);
        x.walk(0);
        due("1 at first", x.walked(2), 1);
        for (int n = 1; n <= 8; n++) {
            due("yes", x.period(n), true);
            x.period(0);
            x.period(9);
            x.walk(0);
            due("it waits for ever", x.walked(2), n);
            due("from the beginning", x.walked(1), 0);
        }
    }

    private static void promise10Gate() {
        about = "10 gate";
        LabyrinthGarden x = new LabyrinthGarden();
        x.junction(false);
        x.junction(true);
        x.path(0, 1);
        read(x, "a:1stay a;");
        for (int n : EDGES) {
            due("no path", x.gate(n, 1), false);
            due("no number", x.gate(0, n), false);
        }
        due("no path", x.gate(1, 1), false);
        due("no number", x.gate(0, 256), false);
        due("no number", x.gate(0, Integer.MAX_VALUE), false);
        x.walk(0);
        due("all bits at first", x.walked(0), 1);
        x.period(8);
        for (int t = 0; t < 8; t++) {
            due("gate", x.gate(0, 1 << t), true);
            due("out", x.walk(0), 0);
            due("when it opens", x.walked(0), t + 1);
        }
        due("gate", x.gate(0, 0), true);
        due("never", x.walk(0), 1);
        due("gate", x.gate(0, 255), true);
        due("always", x.walk(0), 0);
        x.period(3);
        x.gate(0, 8);
        due("a bit above the period", x.walk(0), 1);
    }

    private static void promise11Shut() {
        about = "11 shut";
        LabyrinthGarden x = new LabyrinthGarden();
        x.junction(false);
        x.junction(true);
        due("none such", x.shut(0, true), false);
        x.path(0, 1);
        read(x, "a:1stay a;");
        for (int n : EDGES) {
            due("none such", x.shut(n, true), false);
        }
        due("none such", x.shut(1, true), false);
        due("none such", x.shut(32, true), false);
        due("shut", x.shut(0, true), true);
        due("never out", x.walk(0), 1);
        due("gate", x.gate(0, 255), true);
        due("a gate opens no shut path", x.walk(0), 1);
        due("shut again", x.shut(0, true), true);
        due("not shut", x.shut(0, false), true);
        due("out", x.walk(0), 0);
    }

    private static void promise12Place() {
        about = "12 place";
        LabyrinthGarden x = triangle();
        int[] ends = {3, 2, 2, 1};
        int number = 0;
        for (int j = 0; j < 4; j++) {
            for (int e = 0; e < ends[j]; e++) {
                due("place", x.place(j, e), number);
                number++;
            }
            due("no such end", x.place(j, ends[j]), -1);
            due("no such end", x.place(j, -1), -1);
            due("no such end", x.place(j, Integer.MAX_VALUE), -1);
        }
        for (int n : EDGES) {
            due("no such junction", x.place(n, 0), -1);
        }
        due("no such junction", x.place(4, 0), -1);
        x.junction(false);
        due("without ends", x.place(4, 0), -1);
    }

    private static void walked(LabyrinthGarden x, int place, int... want) {
        due("walk " + place, x.walk(place), want[0]);
        for (int what = 0; what < 6; what++) {
            due("walked " + what + " from " + place, x.walked(what), want[what + 1]);
        }
    }

    private static void promise13Walk() {
        about = "13 walk";
        LabyrinthGarden x = triangle();
        due("no rules", x.walk(0), -1);
        read(x, "a: 1 stay a;");
        for (int n : EDGES) {
            due("no such place", x.walk(n), -1);
        }
        due("no such place", x.walk(8), -1);
        due("no such place", x.walk(Integer.MAX_VALUE), -1);
        walked(x, 0, 1, -1, 0, 3, 0, 0, 0);
        walked(x, 2, 0, 4, -1, -1, 7, 0, 0);
        walked(x, 7, 0, 0, -1, -1, 7, 0, 0);
        // BEAT PLACE STATE MARKS: 0 4 c -, 1 5 c 1, 2 4 c 12, 3 0 d 2, 4 3 c 2, 5 0 c 12, 6 3 c 012, 7 5 d 02, 8 4 c 02,
        // 9 5 c 012, 10 1 d 01, 11 6 c 01, 12 1 c 012, 13 7 d 12.
        read(x, "c: 1 take d | 0 drop c; d: 0 stay c;");
        walked(x, 4, 0, 13, -1, -1, 7, 3, 2);
        // The first ACT without '|', whether a mark lies there or not.
        read(x, "b: 1 drop b;");
        x.mark(1, true);
        walked(x, 3, 0, 3, -1, -1, 7, 1, 3);
        walked(x, 1, 0, 1, -1, -1, 7, 1, 2);
        // PLACE MARKS: 0 1, 6 01, 4 012, 0 012, 6 012, 4 012.
        walked(x, 0, 1, -1, 2, 3, 4, 1, 3);
        read(x, "b: 1 take b;");
        // PLACE MARKS: 0 1, 6 1, 4 1, 0 -, 6 -, 4 -, 0 -.
        walked(x, 0, 1, -1, 3, 3, 0, 1, 0);
    }

    private static void promise13Turning() {
        about = "13 turning";
        LabyrinthGarden x = star(5, false);
        for (int number = 0; number <= 9; number++) {
            read(x, "a: " + number + " stay b; b: 0 stay b;");
            for (int end = 0; end < 5; end++) {
                x.walk(x.place(0, end));
                int to = (end + number) % 5;
                // From the tip he turns back and goes to and fro on that path.
                due("lap", x.walked(2), 2);
                due("to", x.walked(3), x.place(to + 1, 0));
            }
        }
        // With 1 and 3 not open, 0 2 4 are the open ends; by end 1: 2 4 0 2 ..; by end 2: 4 0 2 4 ..
        x.period(2);
        x.gate(1, 2);
        x.shut(3, true);
        int[] byOne = {2, 2, 4, 0, 2, 4, 0, 2, 4, 0};
        int[] byTwo = {2, 4, 0, 2, 4, 0, 2, 4, 0, 2};
        for (int number = 0; number <= 9; number++) {
            read(x, "a: " + number + " stay b; b: 0 stay b;");
            x.walk(1);
            due("by an end that isn't open, " + number, x.walked(3), x.place(byOne[number] + 1, 0));
            x.walk(2);
            due("by an open end, " + number, x.walked(3), x.place(byTwo[number] + 1, 0));
        }
        // None is open at first: he waits, his STATE and the MARKS are another all the same.
        LabyrinthGarden y = new LabyrinthGarden();
        y.junction(false);
        y.junction(true);
        y.path(0, 1);
        y.period(4);
        y.gate(0, 8);
        read(y, "b: 1 drop c; c: 2 stay d; d: 3 take a; a: 0 drop b;");
        walked(y, 0, 0, 4, -1, -1, 1, 1, 1);
        y.gate(0, 4);
        walked(y, 0, 0, 3, -1, -1, 1, 0, 0);
        // A loop at one JUNCTION: he comes by its other END.
        LabyrinthGarden z = new LabyrinthGarden();
        z.junction(false);
        z.path(0, 0);
        read(z, "a: 0 stay a;");
        walked(z, 0, 1, -1, 0, 2, 0, 0, 0);
        read(z, "a: 1 stay a;");
        walked(z, 1, 1, -1, 0, 1, 1, 0, 0);
        // The BEAT counts even where nothing moves: alike only with the same BEAT of the PERIOD.
        z.period(3);
        walked(z, 1, 1, -1, 0, 3, 1, 0, 0);
        read(z, "a: 0 stay a;");
        walked(z, 0, 1, -1, 0, 6, 0, 0, 0);
    }

    private static void promise14Walked() {
        about = "14 walked";
        LabyrinthGarden x = triangle();
        for (int what = -2; what < 8; what++) {
            due("ahead of any", x.walked(what), -1);
        }
        read(x, "a: 1 stay a;");
        x.walk(99);
        due("ahead of any but NONE", x.walked(3), -1);
        x.walk(2);
        x.walk(-1);
        due("the latest that was not NONE", x.walked(0), 4);
        due("lead", x.walked(1), -1);
        due("lap", x.walked(2), -1);
        due("another", x.walked(6), -1);
        due("another", x.walked(-1), -1);
        due("another", x.walked(Integer.MAX_VALUE), -1);
        due("another", x.walked(Integer.MIN_VALUE), -1);
        read(x, "");
        x.walk(0);
        due("without rules", x.walked(0), 4);
        x.lost();
        x.help(0);
        x.anew();
        due("behind anew", x.walked(0), 4);
        due("behind anew", x.walked(3), 7);
        // A LEAD: from JUNCTION 1 into a loop at JUNCTION 0, which he never leaves.
        LabyrinthGarden y = new LabyrinthGarden();
        y.junction(false);
        y.junction(false);
        y.path(0, 0);
        y.path(0, 1);
        read(y, "d: 0 drop c; c: 1 stay a; a: 0 stay a;");
        // 3 (J1 end 0) -> 2 (J0 end 2) -> 1 further: end 0 -> 1, then to and fro.
        walked(y, 3, 1, -1, 2, 2, 1, 0, 1);
    }

    private static void promise15Lost() {
        about = "15 lost";
        LabyrinthGarden x = triangle();
        due("no rules", x.lost(), -1);
        read(x, "a: 1 stay a;");
        due("lost", x.lost(), 1 + 16 + 64);
        read(x, "a: 0 stay a;");
        due("lost", x.lost(), 255 - 4 - 128);
        read(x, "");
        due("no rules", x.lost(), -1);
        x.anew();
        read(x, "a: 0 stay a;");
        due("no places", x.lost(), 0);
        for (int i = 0; i < 8; i++) {
            x.junction(false);
        }
        for (int i = 0; i < 12; i++) {
            x.path(i % 8, (i + 1) % 8);
        }
        due("all 24", x.lost(), (1L << 24) - 1);
    }

    private static void promise16Help() {
        about = "16 help";
        LabyrinthGarden x = triangle();
        due("no rules", x.help(0), -1);
        due("no rules", x.help(1), -1);
        read(x, "a: 2 stay a | 1 stay a;");
        for (int n : EDGES) {
            due("no such what", x.help(n), -1);
        }
        due("no such what", x.help(2), -1);
        due("to mark", x.help(0), 1);
        due("which", x.helped(0), 1);
        due("to shut", x.help(1), 1);
        due("which", x.helped(0), 0);
        x.mark(1, true);
        due("none to mark", x.help(0), 0);
        due("which", x.helped(0), -1);
        due("none to shut", x.help(1), 0);
        x.mark(1, false);
        x.shut(0, true);
        due("none to shut", x.help(1), 0);
        x.shut(0, false);
        x.shut(3, true);
        due("shut for ever", x.help(0), -1);
        due("shut for ever", x.help(1), -1);
        x.anew();
        due("nobody there", x.help(0), 0);
        due("nobody there", x.help(1), 0);
        x.junction(false);
        x.path(0, 0);
        due("no out", x.help(0), -1);
        due("no out", x.help(1), -1);
        // PATH 0 is gone to and fro unless a mark at one of its JUNCTIONS sends him on: the first of them.
        LabyrinthGarden y = new LabyrinthGarden();
        y.junction(false);
        y.junction(false);
        y.junction(true);
        y.path(0, 1);
        y.path(1, 2);
        y.path(0, 2);
        read(y, "a: 1 stay a | 0 stay a;");
        due("one to mark", y.help(0), 1);
        due("which", y.helped(0), 0);
        due("one to shut", y.help(1), 1);
        due("which", y.helped(0), 0);
    }

    private static void promise17Helped() {
        about = "17 helped";
        // Two triangles, each with a way to the one that is OUT: in each its first PATH is to be SHUT.
        LabyrinthGarden x = new LabyrinthGarden();
        for (int i = 0; i < 7; i++) {
            x.junction(i == 6);
        }
        for (int i = 0; i < 6; i += 3) {
            x.path(i, i + 1);
            x.path(i + 1, i + 2);
            x.path(i + 2, i);
            x.path(i, 6);
        }
        due("ahead of any", x.helped(0), -1);
        read(x, "a: 1 stay a;");
        due("two to shut", x.help(1), 2);
        due("first", x.helped(0), 0);
        due("second", x.helped(1), 4);
        due("none more", x.helped(2), -1);
        due("below", x.helped(-1), -1);
        due("below", x.helped(Integer.MIN_VALUE), -1);
        due("above", x.helped(Integer.MAX_VALUE), -1);
        due("nothing is shut by it", x.lost() != 0, true);
        due("another what", x.help(7), -1);
        due("leaves it", x.helped(1), 4);
        x.shut(0, true);
        due("one to shut", x.help(1), 1);
        due("the one", x.helped(0), 4);
        due("none more", x.helped(1), -1);
        x.anew();
        due("behind anew", x.helped(0), 4);
        // 0 and 2 lie between a dead end and the OUT: without a mark there one goes to and fro for ever.
        LabyrinthGarden y = new LabyrinthGarden();
        for (int i = 0; i < 5; i++) {
            y.junction(i == 4);
        }
        y.path(0, 1);
        y.path(0, 4);
        y.path(2, 3);
        y.path(2, 4);
        read(y, "a: 1 stay a | 0 stay a;");
        due("two to mark", y.help(0), 2);
        due("first", y.helped(0), 0);
        due("second", y.helped(1), 2);
        due("none more", y.helped(2), -1);
        due("none to shut", y.help(1), -1);
        due("the latest that told a number", y.helped(1), 2);
        y.mark(0, true);
        due("one to mark", y.help(0), 1);
        due("the one", y.helped(0), 2);
        due("none more", y.helped(1), -1);
        y.mark(2, true);
        due("none to mark", y.help(0), 0);
        due("none", y.helped(0), -1);
    }

    private static void promise18Tale() {
        about = "18 tale";
        LabyrinthGarden x = triangle();
        due("none with 0", x.tale(0), 0);
        due("1", x.tale(1), 128);
        due("2", x.tale(2), 8 + 16 + 32 + 64);
        due("3", x.tale(3), 7);
        due("6", x.tale(6), 0);
        x.turn(0, 3);
        due("turns", x.count(4), 1);
        due("7", x.tale(7), -1);
        for (int n : EDGES) {
            due("below 0", x.tale(n), -1);
        }
        due("nothing happens", x.count(4), 1);
        due("begun again", x.tale(3), 7);
        due("turns", x.count(4), 0);
        LabyrinthGarden y = new LabyrinthGarden();
        y.junction(true);
        y.path(0, 0);
        y.path(0, 0);
        y.path(0, 0);
        due("6 ends, out", y.tale(6), 63);
    }

    private static void promise19Turn() {
        about = "19 turn";
        LabyrinthGarden x = triangle();
        due("no tale", x.turn(0, 2), -1);
        x.tale(3);
        for (int n : EDGES) {
            due("no such turn", x.turn(n, 2), -1);
            due("no such ends", x.turn(1, n), -1);
        }
        due("no such turn", x.turn(10, 2), -1);
        due("no such ends", x.turn(1, 7), -1);
        due("nothing happens", x.count(4), 0);
        for (int i = 0; i < 4; i++) {
            x.shut(i, true);
            x.gate(i, 0);
        }
        due("nothing is shut in a tale", x.turn(1, 2), 8 + 64);
        due("on", x.turn(1, 2), 16 + 32);
        due("9 as 1", x.turn(9, 3), 1 + 2);
        due("8 as 2; out is no end", x.turn(8, 1), 128);
        due("0: back", x.turn(0, 3), 4);
        due("6 as 0", x.turn(6, 1), 128);
        due("5 as 0", x.turn(5, 3), 4);
        due("the eighth, 7 as 1", x.turn(7, 2), 8);
        due("count", x.count(4), 8);
        due("it has 8", x.turn(0, 2), -1);
        due("count", x.count(4), 8);
        x.path(1, 2);
        due("gone", x.turn(0, 2), -1);
        x.tale(6);
        due("nowhere stays nowhere", x.turn(0, 0), 0);
        due("counted all the same", x.count(4), 1);
    }

    private static void promise20Home() {
        about = "20 home";
        LabyrinthGarden x = new LabyrinthGarden();
        due("without places", x.home(), 0);
        x.junction(false);
        due("without places", x.home(), 0);
        x.path(0, 0);
        due("two alike", x.home(), -1);
        x.anew();
        x.junction(false);
        x.junction(false);
        x.path(0, 1);
        due("two alike", x.home(), -1);
        x.path(1, 1);
        due("two turns", x.home(), 2);
        due("first", x.homing(0), 0);
        due("second", x.homing(1), 1);
        x.shut(0, true);
        x.gate(1, 0);
        due("gates are none here", x.home(), 2);
        due("the triangle", triangle().home(), 4);
        due("no rules needed", star(3, true).home(), -1);
    }

    private static void promise21Homing() {
        about = "21 homing";
        LabyrinthGarden x = triangle();
        due("ahead of any", x.homing(0), -1);
        due("home", x.home(), 4);
        // Not worked by hand: a search over all TALES, written apart from the class, told it.
        int[] turns = {0, 1, 1, 1};
        for (int k = 0; k < 4; k++) {
            due("homing", x.homing(k), turns[k]);
        }
        due("behind the last", x.homing(4), -1);
        for (int n : EDGES) {
            due("below 0", x.homing(n), -1);
        }
        due("above", x.homing(Integer.MAX_VALUE), -1);
        x.anew();
        due("behind anew", x.homing(1), 1);
        x.junction(false);
        x.path(0, 0);
        due("none", x.home(), -1);
        due("the latest that told a number", x.homing(0), 0);
        due("the latest that told a number", x.homing(3), 1);
        x.anew();
        due("0 is a number", x.home(), 0);
        due("none such", x.homing(0), -1);
    }

    private static void promise22Look() {
        about = "22 look";
        LabyrinthGarden x = triangle();
        int[][] rows = {{0, 0, 0, 3}, {0, 1, 2, 6}, {0, 2, 3, 7}, {1, 0, 0, 0}, {1, 1, 1, 5}, {2, 0, 1, 4}, {2, 1, 2, 1},
            {3, 0, 3, 2}};
        for (int place = 0; place < 8; place++) {
            for (int what = 0; what < 4; what++) {
                due("look " + place + " " + what, lookAt(x, place, what), rows[place][what]);
            }
            due("no such what", lookAt(x, place, 4), ELEMENT);
            due("no such what", lookAt(x, place, -1), ELEMENT);
            due("no such what", lookAt(x, place, Integer.MIN_VALUE), ELEMENT);
        }
        for (int n : EDGES) {
            due("no such place", lookAt(x, n, 0), INDEX);
            due("neither", lookAt(x, n, 9), INDEX);
        }
        due("no such place", lookAt(x, 8, 0), INDEX);
        due("no such place", lookAt(x, Integer.MAX_VALUE, 3), INDEX);
        x.anew();
        due("no such place", lookAt(x, 0, 0), INDEX);
    }

    private static void promise23Count() {
        about = "23 count";
        LabyrinthGarden x = triangle();
        due("junctions", x.count(0), 4);
        due("paths", x.count(1), 4);
        due("places", x.count(2), 8);
        x.mark(2, true);
        due("marks", x.count(3), 1);
        due("no tale", x.count(4), -1);
        x.tale(3);
        due("tale", x.count(4), 0);
        x.turn(1, 1);
        due("tale", x.count(4), 1);
        read(x, "a:1stay b;b:1stay a;");
        due("lines", x.count(5), 2);
        due("another", x.count(6), -1);
        for (int n : EDGES) {
            due("another", x.count(n), -1);
        }
    }
}

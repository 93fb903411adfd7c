import java.util.ArrayList;
import java.util.Arrays;
import java.util.HashMap;
import java.util.List;
import java.util.Map;

/**
 * The document's sentences that name a bound, each with a test of its own on both sides of it. What is to stay behind a
 * refused call is in RefusalTest.
 */
public final class BoundaryTest {
    private static final int LAST_BEAT = 1500;

    private static int wrong = 0;
    private static int sentences = 0;
    private static String about = "";

    public static void main(String[] args) {
        newObject();
        junctionsAndPaths();
        ends();
        rings();
        gates();
        tape();
        cuts();
        signs();
        words();
        numbers();
        lines();
        faults();
        anew();
        beginnings();
        acts();
        turning();
        waiting();
        rounds();
        lastBeat();
        walked();
        lost();
        toMark();
        toShut();
        helped();
        tales();
        turnsOfTales();
        homes();
        homing();
        manyCalls();
        System.out.println(sentences + " sentences");
        System.out.println(wrong == 0 ? "all answers are as due" : wrong + " answers are not as due");
        if (wrong != 0) {
            System.exit(1);
        }
    }

    private static void sentence(String words) {
        about = words;
        sentences++;
    }

    private static void due(String what, long got, long want) {
        if (got != want) {
            wrong++;
            System.out.println("<" + about + ">: " + what + " answered " + got + ", due is " + want);
        }
    }

    private static void due(String what, boolean got, boolean want) {
        due(what, got ? 1 : 0, want ? 1 : 0);
    }

    private static void put(LabyrinthGarden x, String text) {
        for (int i = 0; i < text.length(); i += 20) {
            x.feed(four(text, i), four(text, i + 4), four(text, i + 8), four(text, i + 12), four(text, i + 16));
        }
    }

    private static int four(String text, int from) {
        int number = 0;
        for (int i = from; i < from + 4; i++) {
            number = number << 8 | (i < text.length() ? text.charAt(i) & 255 : 0);
        }
        return number;
    }

    private static int read(LabyrinthGarden x, String text) {
        put(x, text);
        return x.rules(text.length());
    }

    /** JUNCTIONS of which some are OUT, and PATHS, written as "0-1 1-2". */
    private static LabyrinthGarden garden(int junctions, String outs, String paths) {
        LabyrinthGarden x = new LabyrinthGarden();
        lay(x, junctions, outs, paths);
        return x;
    }

    private static void lay(LabyrinthGarden x, int junctions, String outs, String paths) {
        for (int j = 0; j < junctions; j++) {
            x.junction(outs.indexOf('0' + j) >= 0);
        }
        for (String path : paths.isEmpty() ? new String[0] : paths.split(" ")) {
            x.path(path.charAt(0) - '0', path.charAt(2) - '0');
        }
    }

    private static LabyrinthGarden star(int tips, String outs) {
        StringBuilder paths = new StringBuilder();
        for (int tip = 1; tip <= tips; tip++) {
            paths.append(tip > 1 ? " " : "").append("0-").append(tip);
        }
        return garden(tips + 1, outs, paths.toString());
    }

    private static String many(String text, int times) {
        return text.repeat(times);
    }

    private static void newObject() {
        sentence("No JUNCTIONS, no RULES, no TALE; an empty TAPE");
        LabyrinthGarden x = new LabyrinthGarden();
        for (int what = 0; what < 6; what++) {
            due("count " + what, x.count(what), what == 4 ? -1 : 0);
        }
        due("the first bytes", x.feed(0, 0, 0, 0, 0), 20);
        sentence("0 without PLACES");
        due("home", x.home(), 0);
        due("its first TURN", x.homing(0), -1);
        sentence("what 0: its FAULT (0), 1: its place (NONE without)");
        due("fault 0 ahead of any", x.fault(0), 0);
        due("fault 1 ahead of any", x.fault(1), -1);
    }

    private static void junctionsAndPaths() {
        sentence("JUNCTIONS, at most 8, numbered from 0 on");
        LabyrinthGarden x = new LabyrinthGarden();
        for (int i = 0; i < 8; i++) {
            due("mark of one to come", x.mark(i, true), false);
            due("junction", x.junction(i == 7), i);
            due("count", x.count(0), i + 1);
            due("mark", x.mark(i, true), true);
        }
        due("ninth", x.junction(false), -1);
        due("count", x.count(0), 8);
        due("marks", x.count(3), 8);
        sentence("PATHS, at most 12");
        for (int i = 0; i < 12; i++) {
            due("gate of one to come", x.gate(i, 255), false);
            due("shut of one to come", x.shut(i, false), false);
            due("path", x.path(i % 8, (i + 3) % 8), i);
            due("count", x.count(1), i + 1);
            due("its two ENDS", x.count(2), 2 * i + 2);
            due("gate", x.gate(i, 255), true);
            due("shut", x.shut(i, false), true);
        }
        due("thirteenth", x.path(7, 6), -1);
        due("count", x.count(1), 12);
        due("places", x.count(2), 24);
        sentence("each between two JUNCTIONS (or one and the same)");
        LabyrinthGarden y = garden(8, "", "");
        for (int i = 0; i < 12; i++) {
            due("loop", y.path(i / 3, i / 3), i);
        }
        due("thirteenth, with ENDS to spare", y.path(6, 7), -1);
        sentence("no such JUNCTIONS");
        LabyrinthGarden z = garden(2, "", "");
        due("both", z.path(0, 1), 0);
        due("second", z.path(1, 2), -1);
        due("first", z.path(2, 1), -1);
        due("second", z.path(0, -1), -1);
        due("first", z.path(-1, 0), -1);
        z.junction(false);
        due("now there is one", z.path(1, 2), 1);
        sentence("its number (PLACES are numbered anew, a TALE is gone)");
        z.tale(1);
        due("refused: the TALE stays", z.path(3, 0) + 10 * z.count(4), -1);
        due("a path", z.path(0, 2), 2);
        due("the TALE is gone", z.count(4), -1);
    }

    private static void ends() {
        sentence("one would have more than 6 ENDS");
        for (int loops = 0; loops <= 3; loops++) {
            LabyrinthGarden x = garden(8, "", "");
            for (int i = 0; i < loops; i++) {
                due("loop", x.path(0, 0), i);
            }
            int tip = 1;
            for (int has = 2 * loops; has < 6; has++) {
                due("an END more", x.path(has % 2 == 0 ? 0 : tip, has % 2 == 0 ? tip : 0) >= 0, true);
                due("loop with " + (has + 1) + " ENDS", has + 1 > 4 ? x.path(0, 0) : -1, -1);
                tip++;
            }
            due("its sixth", x.place(0, 5), 5);
            due("a seventh", x.path(0, 7), -1);
            due("a seventh", x.path(7, 0), -1);
            due("two more", x.path(0, 0), -1);
            due("no seventh", x.place(0, 6), -1);
            due("none at the other", x.place(7, 0), -1);
        }
        LabyrinthGarden y = garden(2, "", "0-1 0-1 0-1 0-1");
        due("a loop with 4 ENDS", y.path(1, 1), 4);
        due("that has 6", y.path(0, 1), -1);
        due("a loop with 4 ENDS", y.path(0, 0), 5);
        due("both have 6", y.path(1, 0), -1);
        due("places", y.count(2), 12);
    }

    private static void rings() {
        sentence("in the order in which they came (of a PATH its first ENDS ahead of its second one)");
        LabyrinthGarden x = garden(2, "", "1-0 0-0 0-1");
        int[][] rows = {{0, 0, 0, 4}, {0, 1, 1, 2}, {0, 2, 1, 1}, {0, 3, 2, 5}, {1, 0, 0, 0}, {1, 1, 2, 3}};
        for (int place = 0; place < 6; place++) {
            for (int what = 0; what < 4; what++) {
                due("look " + place + " " + what, x.look(place, what), rows[place][what]);
            }
        }
        sentence("All PLACES are numbered from 0 on, by JUNCTIONS, then ENDS");
        LabyrinthGarden y = garden(4, "", "3-0");
        due("first", y.place(0, 0), 0);
        due("JUNCTIONS without ENDS have none", y.place(1, 0), -1);
        due("JUNCTIONS without ENDS have none", y.place(2, 0), -1);
        due("last", y.place(3, 0), 1);
        y.path(2, 2);
        due("first", y.place(0, 0), 0);
        due("between", y.place(2, 0), 1);
        due("between", y.place(2, 1), 2);
        due("behind the last END", y.place(2, 2), -1);
        due("last", y.place(3, 0), 3);
        due("the other END", y.look(3, 3), 0);
        LabyrinthGarden z = garden(4, "", "0-0 0-0 0-0 1-1 1-1 1-1 2-2 2-2 2-2 3-3 3-3 3-3");
        for (int place = 0; place < 24; place++) {
            due("place", z.place(place / 6, place % 6), place);
            due("junction", z.look(place, 0), place / 6);
            due("end", z.look(place, 1), place % 6);
            due("path", z.look(place, 2), place / 2);
            due("other", z.look(place, 3), place % 2 == 0 ? place + 1 : place - 1);
        }
    }

    private static void gates() {
        sentence("PERIOD 1 .. 8, 1 at first");
        for (int beats = 0; beats <= 8; beats++) {
            LabyrinthGarden x = garden(1, "", "0-0");
            x.shut(0, true);
            read(x, "a:1stay a;");
            if (beats > 0) {
                due("period " + beats, x.period(beats), true);
            }
            x.walk(0);
            due("he waits for ever, as often as the PERIOD", x.walked(2), beats > 0 ? beats : 1);
        }
        sentence("it is open at a BEAT t if bit (t modulo PERIOD) of its number is 1");
        for (int beats = 1; beats <= 8; beats++) {
            for (int t = 0; t < beats; t++) {
                // He is at 1 just when the bits begin again.
                LabyrinthGarden x = garden(3, "2", "0-1 1-2");
                x.period(beats);
                x.gate(0, 1 << beats - 1);
                x.gate(1, 1 << t);
                read(x, "a:1stay a;");
                due("out, " + beats + " " + t, x.walk(0), 0);
                due("when, " + beats + " " + t, x.walked(0), beats + t + 1);
            }
        }
        sentence("a bit that is no BEAT of the PERIOD is none");
        for (int beats = 1; beats < 8; beats++) {
            LabyrinthGarden x = garden(2, "1", "0-1");
            x.period(beats);
            x.gate(0, 255 << beats & 255);
            read(x, "a:1stay a;");
            due("never open", x.walk(0), 1);
            x.period(beats + 1);
            due("a BEAT more", x.walk(0), 0);
            due("when", x.walked(0), beats + 1);
        }
        sentence("A GATE's number (0 .. 255); all bits at first");
        LabyrinthGarden y = garden(2, "1", "0-1");
        read(y, "a:1stay a;");
        for (int beats = 1; beats <= 8; beats++) {
            y.period(beats);
            y.walk(0);
            due("open at once", y.walked(0), 1);
        }
        for (int bits = 0; bits <= 255; bits++) {
            LabyrinthGarden x = garden(2, "1", "0-1");
            read(x, "a:1stay a;");
            x.period(8);
            due("gate " + bits, x.gate(0, bits), true);
            due("out", x.walk(0), bits == 0 ? 1 : 0);
            due("when", x.walked(0), bits == 0 ? -1 : Integer.numberOfTrailingZeros(bits) + 1);
        }
        sentence("a PATH may be SHUT: it is never open then");
        y.period(8);
        y.shut(0, true);
        due("gate", y.gate(0, 255), true);
        due("shut", y.walk(0), 1);
        due("a LAP of the PERIOD", y.walked(2), 8);
        y.shut(0, false);
        due("not shut", y.walk(0), 0);
    }

    private static void tape() {
        sentence("Twenty bytes come behind the TAPE, four of each number, the highest first");
        for (int i = 0; i < 40; i++) {
            for (char sign : new char[] {0, 127, 128, 255}) {
                LabyrinthGarden x = new LabyrinthGarden();
                put(x, many(" ", i) + sign + many(" ", 39 - i));
                due("rules", x.rules(40), -1);
                due("the only byte that is no blank", x.fault(1), i);
            }
        }
        sentence("NONE, and none come, if it would have more than 300");
        LabyrinthGarden x = new LabyrinthGarden();
        for (int size = 20; size <= 300; size += 20) {
            due("feed", x.feed(0x20202020, 0x20202020, 0x20202020, 0x20202020, 0x20202020), size);
        }
        due("more", x.feed(-1, -1, -1, -1, -1), -1);
        due("301", x.rules(301), -2);
        due("300, all blank", x.rules(300), 0);
        due("there is room again", x.feed(-1, -1, -1, -1, -1), 20);
        sentence("-2, and the TAPE stays: there are not so many, n is below 0");
        for (int size = 0; size <= 300; size += 20) {
            LabyrinthGarden y = new LabyrinthGarden();
            put(y, many(" ", size));
            due("a byte more than " + size, y.rules(size + 1), -2);
            due("below 0", y.rules(-1), -2);
            due("all " + size, y.rules(size), 0);
            due("it is empty then", y.rules(1), -2);
        }
        sentence("The TAPE's first n bytes (it is empty then)");
        for (int n = 0; n <= 20; n++) {
            LabyrinthGarden y = new LabyrinthGarden();
            put(y, many(" ", 20));
            due("rules", y.rules(n), 0);
            due("nothing is left of it", y.rules(1), -2);
            due("feed", y.feed(0, 0, 0, 0, 0), 20);
        }
    }

    private static void cuts() {
        sentence("(the length, if more must come)");
        String text = "a:1stay a;b:2take a;";
        int[] places = {-1, 1, 2, 3, 3, 3, 3, 7, 8, 9, -1, 11, 12, 13, 13, 13, 13, 17, 18, 19, -1};
        for (int n = 0; n <= 20; n++) {
            LabyrinthGarden x = new LabyrinthGarden();
            put(x, text);
            due("rules of the first " + n, x.rules(n), places[n] >= 0 ? -1 : n / 10);
            due("fault of the first " + n, x.fault(0), places[n] >= 0 ? 1 : 0);
            due("place of the first " + n, x.fault(1), places[n]);
        }
        sentence("The TAPE's first n bytes: what comes behind them is no part of a number, a word, a blank");
        cut("a:10stay a;", 3, 1, 3);
        cut("a:10stay a;", 4, 2, 2);
        cut("a:99stay a;", 3, 1, 3);
        cut("a:1stays a;", 7, 1, 7);
        cut("a:1stays a;", 8, 1, 3);
        cut("ab:1stay a;", 1, 1, 1);
        cut("a:1stay a  ;", 9, 1, 9);
        cut("a:1stay a  ;", 10, 1, 10);
        cut("a:1stay a;  ?", 12, 0, -1);
        cut("a:1stay a;  ?", 13, 1, 12);
        sentence("the length, blanks behind the last TOKEN counted");
        faulty("a ", 1, 2);
        faulty("a:1 \n \n", 1, 7);
        faulty(" \na:1stay a|\n", 1, 13);
        faulty("a:1stay a|2 stay a \n", 1, 20);
        sentence("the length is 300 at most");
        faulty("a:1 stay a" + many(" ", 290), 1, 300);
        faulty("a:1 stay a" + many(" ", 289) + ";", 0, -1);
        faulty("a:1 stay a;" + many("\n", 288) + "b", 1, 300);
        faulty(many(" ", 299) + "a", 1, 300);
        faulty(many(" ", 299) + "e", 1, 299);
        faulty(many(" ", 300), 0, -1);
    }

    private static void cut(String text, int n, int fault, int at) {
        LabyrinthGarden x = new LabyrinthGarden();
        put(x, text);
        due("the first " + n + " of <" + text + "> NONE", x.rules(n) == -1, fault != 0);
        due("fault of the first " + n + " of <" + text + ">", x.fault(0), fault);
        due("place of the first " + n + " of <" + text + ">", x.fault(1), at);
    }

    private static void faulty(String text, int fault, int at) {
        LabyrinthGarden x = new LabyrinthGarden();
        due("rules of <" + text + "> NONE", read(x, text) == -1, fault != 0);
        due("fault of <" + text + ">", x.fault(0), fault);
        due("place of <" + text + ">", x.fault(1), at);
    }

    /** Each byte in the stead of each TOKEN, blanks around it. */
    private static void signs() {
        sentence("1 a TOKEN that is none (another word, a letter beyond d, too) or can't stand there");
        String[] ahead = {"", "a ", "a : ", "a : 1 ", "a : 1 stay ", "a : 1 stay a "};
        String[] behind = {" : 1 stay a ;", " 1 stay a ;", " stay a ;", " a ;", " ;", ""};
        String[] fits = {"a", ":", "0123456789", "", "a", ";"};
        for (int i = 0; i < 6; i++) {
            for (int sign = 0; sign < 256; sign++) {
                String text = ahead[i] + (char) sign + behind[i];
                int at = ahead[i].length();
                if (sign == 10 || sign == 32) {
                    faulty(text, 1, i < 5 ? at + 2 : at + 1);
                } else if (fits[i].indexOf(sign) >= 0) {
                    faulty(text, 0, -1);
                } else if ((i == 0 || i == 4) && sign >= 'b' && sign <= 'd') {
                    faulty(text, 4, 11);
                } else if (i == 5 && sign == '|') {
                    faulty(text, 1, at + 1);
                } else {
                    faulty(text, 1, at);
                }
            }
        }
        sentence("Blanks 10, 32");
        int[] gaps = {0, 1, 2, 3, 7, 8, 9, 10, 11, 15, 16, 17, 18};
        String text = "a:1stay a|2take a;";
        for (int gap : gaps) {
            for (int sign : new int[] {0, 8, 9, 10, 11, 12, 13, 31, 32, 33, 127, 128, 138, 160, 255}) {
                boolean blank = sign == 10 || sign == 32;
                faulty(text.substring(0, gap) + (char) sign + text.substring(gap), blank ? 0 : 1, blank ? -1 : gap);
            }
        }
        sentence("S: one letter a .. d");
        faulty("a:1stay d;d:1stay c;c:1stay b;b:1stay a;", 0, -1);
        faulty("e:1stay a;", 1, 0);
        faulty("a:1stay e;", 1, 8);
        faulty("a:1stay a|1stay e;", 1, 16);
        faulty("aa:1stay a;", 1, 0);
        faulty("az:1stay a;", 1, 0);
        faulty("a{:1stay a;", 1, 1);
        faulty("a:1stay aa;", 1, 8);
        faulty("a a:1stay a;", 1, 2);
    }

    private static void words() {
        sentence("then one of: stay take drop");
        for (String word : new String[] {"stay", "take", "drop"}) {
            faulty("a:1" + word + " a;", 0, -1);
            faulty("a:1\n" + word + "\na;", 0, -1);
            for (int n = 1; n < 4; n++) {
                faulty("a:1 " + word.substring(0, n) + " a;", 1, 4);
                faulty("a:1 " + word.substring(n) + " a;", 1, 4);
                faulty("a:1 " + word.substring(0, n) + " " + word.substring(n) + " a;", 1, 4);
            }
            faulty("a:1 " + word + word.charAt(3) + " a;", 1, 4);
            faulty("a:1 " + word.charAt(0) + word + " a;", 1, 4);
            faulty("a:1 " + word + word + " a;", 1, 4);
            faulty("a:1 a" + word + " a;", 1, 4);
            faulty("a:1 " + word + "z a;", 1, 4);
            faulty("a:1 z" + word + " a;", 1, 4);
            faulty("a:1 " + word + "{ a;", 1, 8);
            faulty("a:1 " + word + "` a;", 1, 8);
            faulty("a:1 " + word.toUpperCase() + " a;", 1, 4);
            faulty("a:1 " + word.substring(0, 3) + "z a;", 1, 4);
            faulty("a:1 " + word + " " + word + " a;", 1, 9);
            faulty("a:1 " + word + "1 a;", 1, 8);
            faulty(word + ":1stay a;", 1, 0);
            faulty("a:" + word + " a;", 1, 2);
            faulty("a:1stay " + word + ";", 1, 8);
            faulty("a:1stay a;" + word, 1, 10);
        }
        sentence("Words are small letters in a row, two at least");
        faulty("a:1staya;", 1, 3);
        faulty("a:1ab a;", 1, 3);
        faulty("a:1d a;", 1, 3);
        faulty("a:1s a;", 1, 3);
        faulty("a:1 " + many("stay", 20) + " a;", 1, 4);
        faulty(many("a", 300), 1, 0);
    }

    private static void numbers() {
        sentence("a number (0 .. 9)");
        for (int n = 0; n <= 120; n++) {
            faulty("a: " + n + " stay a;", n <= 9 ? 0 : 2, n <= 9 ? -1 : 3);
            faulty("a:1stay a|" + n + "stay a;", n <= 9 ? 0 : 2, n <= 9 ? -1 : 10);
        }
        sentence("2 a number above 9 (at it)");
        for (String above : new String[] {"10", "010", "99", "256", "2147483648", "4294967296", "4294967297", "4294967305",
            "9223372036854775808", "18446744073709551616", "18446744073709551625", "1" + many("0", 100), many("9", 280)}) {
            faulty("a:1stay a;b: " + above + " stay", 2, 13);
        }
        sentence("numbers digits");
        faulty("a:00stay a;", 0, -1);
        faulty("a:" + many("0", 288) + "9stay a;", 0, -1);
        faulty("a:" + many("0", 287) + "10stay a;", 2, 2);
        faulty("a:1 0stay a;", 1, 4);
        faulty("a:-1stay a;", 1, 2);
        faulty("a:+1stay a;", 1, 2);
        faulty("a:1.0stay a;", 1, 3);
        faulty("a1:1stay a;", 1, 1);
    }

    private static void lines() {
        sentence("how many lines");
        String[] order = {"abcd", "dcba", "bdac", "cadb"};
        for (String letters : order) {
            StringBuilder text = new StringBuilder();
            for (int n = 0; n <= 4; n++) {
                LabyrinthGarden x = new LabyrinthGarden();
                due("lines", read(x, text.toString()), n);
                due("count", x.count(5), n);
                if (n < 4) {
                    text.append(letters.charAt(n)).append(":1stay ").append(letters.charAt(0)).append(';');
                }
            }
            sentence("3 a STATE ahead of : told already (at it), the fifth line of " + letters);
            for (int n = 0; n < 4; n++) {
                faulty(text.toString() + letters.charAt(n) + ":1stay a;", 3, 40);
            }
            faulty(text + "e:1stay a;", 1, 40);
            faulty(text + ";", 1, 40);
        }
        sentence("3 a STATE ahead of : told already (at it)");
        faulty("a:1stay a;a:1stay a;", 3, 10);
        faulty("a:1stay a;b:1stay a;a:1stay a;", 3, 20);
        faulty("a:1stay a; \n a : 1 stay a;", 3, 13);
        faulty("a:1stay a|1stay a;", 0, -1);
        sentence("Without lines one has no RULES");
        LabyrinthGarden x = garden(2, "1", "0-1");
        due("a line", read(x, "a:1stay a;"), 1);
        due("walk", x.walk(0), 0);
        for (String none : new String[] {"", " ", "\n", many(" \n", 150)}) {
            read(x, "a:1stay a;");
            due("lines", read(x, none), 0);
            due("count", x.count(5), 0);
            due("walk", x.walk(0), -1);
            due("lost", x.lost(), -1);
            due("help 0", x.help(0), -1);
            due("help 1", x.help(1), -1);
            due("no FAULT", x.fault(0), 0);
        }
        sentence("NONE with a FAULT: the RULES stay");
        read(x, "b:1stay c;c:0drop b;");
        for (String text : new String[] {"a:0take a|0take a;e", "b:2drop b|10", "c:0stay c;c", "d:0stay a;", "a:"}) {
            due("a FAULT", read(x, text), -1);
            due("lines", x.count(5), 2);
            due("walk", x.walk(0), 0);
            due("STATE", x.walked(4), 2);
            due("MARKS", x.walked(5), 0);
        }
    }

    private static void faults() {
        sentence("the first along the text");
        faulty("a:10stay a;a:1stay a;", 2, 2);
        faulty("a:1stay a;a:10stay a;", 3, 10);
        faulty("a:10zz a;", 2, 2);
        faulty("a:1zz a;b:10stay a;", 1, 3);
        faulty("a:1stay a|77stay a;a", 2, 10);
        faulty("a:1stay a;a:1zz a;", 3, 10);
        sentence("(of one place the least)");
        faulty("10", 1, 0);
        faulty("a 10", 1, 2);
        faulty("a:1 10", 1, 4);
        faulty("a:1stay 10", 1, 8);
        faulty("a:1stay a 10", 1, 10);
        faulty("a:1stay a;10", 1, 10);
        faulty("a:1stay a|10", 2, 10);
        sentence("Then, if there is none: 4 an S of an ACT that no line tells (the first one, at it)");
        faulty("a:1stay b;", 4, 8);
        faulty("a:1stay b;b:1stay b;", 0, -1);
        faulty("a:1stay b;a:1stay a;", 3, 10);
        faulty("a:1stay b;c:10stay a;", 2, 12);
        faulty("a:1stay b;?", 1, 10);
        faulty("a:1stay b", 1, 9);
        faulty("a:1stay b|2stay c;", 4, 8);
        faulty("a:1stay a|2stay c;", 4, 16);
        faulty("a:1stay b|2stay c;b:1stay a;", 4, 16);
        faulty("a:1stay a;b:1stay c|1stay d;", 4, 18);
        faulty("a:1stay d;b:1stay c;c:1stay d;", 4, 8);
        sentence("a FAULT is of this text, whatever was read ahead of it");
        String[] ahead = {"", " ", "a:1stay a;", "a", "a:", "a:1", "a:1stay", "a:1stay a", "a:1stay a|", "a:1stay b;", "a:10", "?"};
        for (String earlier : ahead) {
            for (String text : new String[] {"zz", "e", "abc:1stay a;", "?", ":", "1", "stay"}) {
                LabyrinthGarden y = new LabyrinthGarden();
                read(y, earlier);
                due("<" + text + "> behind <" + earlier + ">", read(y, text), -1);
                due("fault", y.fault(0) * 100 + y.fault(1), 100);
            }
            LabyrinthGarden y = new LabyrinthGarden();
            read(y, earlier);
            due("<b:1stay b;> behind <" + earlier + ">", read(y, "b:1stay b;"), 1);
            due("fault", y.fault(0) * 100 + y.fault(1), -1);
            due("lines", y.count(5), 1);
        }
        sentence("Of the latest rules() that was not -2");
        LabyrinthGarden x = new LabyrinthGarden();
        read(x, "a:10");
        due("fault", x.fault(0) * 100 + x.fault(1), 202);
        due("-2", x.rules(1) + x.rules(-1), -4);
        due("fault", x.fault(0) * 100 + x.fault(1), 202);
        due("no lines", x.rules(0), 0);
        due("fault", x.fault(0), 0);
        due("place", x.fault(1), -1);
    }

    private static void anew() {
        sentence("No JUNCTIONS, no PATHS, no TALE, PERIOD 1: the GARDEN is laid anew");
        LabyrinthGarden x = garden(8, "01234567", "0-0 0-0 0-0 1-1 1-1 1-1 2-2 2-2 2-2 3-3 3-3 3-3");
        for (int i = 0; i < 12; i++) {
            x.gate(i, 0);
            x.shut(i, true);
            x.mark(i, true);
        }
        x.period(8);
        x.tale(6);
        x.anew();
        for (int what = 0; what < 4; what++) {
            due("count " + what, x.count(what), 0);
        }
        due("no TALE", x.count(4), -1);
        for (int i = 0; i < 12; i++) {
            due("no MARK", x.mark(i, false) || x.gate(i, 1) || x.shut(i, false), false);
        }
        lay(x, 8, "", "7-6 6-5 5-4 4-3 3-2 2-1 1-0 0-7 0-4 1-5 2-6 3-7");
        due("8 again", x.count(0), 8);
        due("12 again", x.count(1), 12);
        due("without MARKS", x.count(3), 0);
        read(x, "a:1stay a;");
        due("none is OUT", x.lost(), (1L << 24) - 1);
        LabyrinthGarden y = garden(8, "", "7-6 6-5 5-4 4-3 3-2 2-1 1-0 0-7 0-4 1-5 2-6 3-7");
        read(y, "a:1stay a;");
        for (int place = 0; place < 24; place++) {
            due("walk", x.walk(place), y.walk(place));
            due("LAP, as without GATES and SHUT", x.walked(2), y.walked(2));
        }
    }

    private static void beginnings() {
        sentence("in the STATE that the first line tells");
        String[] texts = {"a:1stay b;b:1stay a;", "b:1stay a;a:1stay b;", "c:1stay b;a:1stay b;b:1stay c;", "d:1stay a;a:1stay a;"};
        for (int state = 0; state < 4; state++) {
            LabyrinthGarden x = garden(2, "1", "0-1");
            read(x, texts[state]);
            due("out at once", x.walk(1), 0);
            due("at BEAT 0", x.walked(0), 0);
            due("in that STATE", x.walked(4), state);
            due("at that PLACE", x.walked(3), 1);
        }
        sentence("with the MARKS that lie there then (the GARDEN's stay as they are)");
        LabyrinthGarden x = garden(8, "7", "0-7 7-1");
        read(x, "a:1take a|1drop a;");
        for (int marks = 0; marks <= 8; marks++) {
            for (int time = 0; time < 2; time++) {
                x.walk(x.place(7, 0));
                due("MARKS", x.walked(5), marks);
                x.walk(0);
                due("one more, or less", x.walked(5), marks == 0 ? 1 : marks - 1);
            }
            due("the GARDEN's", x.count(3), marks);
            if (marks < 8) {
                x.mark(marks, true);
            }
        }
    }

    private static void acts() {
        sentence("take: the MARK there is gone; drop: there is one; stay: neither");
        String[] deeds = {"stay", "take", "drop"};
        int[][] left = {{0, 1}, {0, 0}, {1, 1}};
        for (int deed = 0; deed < 3; deed++) {
            for (int mark = 0; mark < 2; mark++) {
                LabyrinthGarden x = garden(2, "1", "0-1");
                x.mark(0, mark == 1);
                read(x, "a:1" + deeds[deed] + " a;");
                x.walk(0);
                due(deeds[deed] + " with " + mark, x.walked(5), left[deed][mark]);
            }
        }
        sentence("its first ACT if there is no |, or there is a MARK; else the second one");
        for (int mark = 0; mark < 2; mark++) {
            for (int bar = 0; bar < 2; bar++) {
                LabyrinthGarden x = garden(3, "12", "0-1 0-2");
                x.mark(0, mark == 1);
                read(x, "a:0stay b" + (bar == 1 ? "|1stay c" : "") + ";b:0stay a;c:0stay a;");
                x.walk(0);
                boolean second = bar == 1 && mark == 0;
                due("STATE " + mark + " " + bar, x.walked(4), second ? 2 : 1);
                due("PLACE " + mark + " " + bar, x.walked(3), second ? 3 : 2);
            }
        }
        sentence("a MARK elsewhere is none there");
        LabyrinthGarden x = garden(3, "12", "0-1 0-2");
        x.mark(1, true);
        x.mark(2, true);
        read(x, "a:0stay a|1stay a;");
        x.walk(0);
        due("the second ACT", x.walked(3), 3);
    }

    /** The END through which he goes, -1 if none is open: those open are written down in their order, his own the last. */
    private static int chosen(int ends, int own, int number, int open) {
        List<Integer> further = new ArrayList<>();
        for (int i = 1; i <= ends; i++) {
            if ((open >> (own + i) % ends & 1) == 1) {
                further.add((own + i) % ends);
            }
        }
        if (further.isEmpty()) {
            return -1;
        }
        if (number == 0) {
            return (open >> own & 1) == 1 ? own : further.get(0);
        }
        return further.get((number - 1) % further.size());
    }

    private static void turning() {
        sentence("those that aren't open not counted, round and round");
        for (int ends = 1; ends <= 6; ends++) {
            for (int number = 0; number <= 9; number++) {
                for (int open = 0; open < 1 << ends; open++) {
                    LabyrinthGarden x = star(ends, "123456");
                    read(x, "a:" + number + "stay a;");
                    for (int end = 0; end < ends; end++) {
                        // Some are SHUT, some have a GATE that isn't open at BEAT 0.
                        boolean on = (open >> end & 1) == 1;
                        x.shut(end, !on && end % 2 == 0);
                        x.gate(end, on ? 1 : end % 2 == 0 ? 255 : 254);
                    }
                    for (int own = 0; own < ends; own++) {
                        int to = chosen(ends, own, number, open);
                        String what = ends + " ENDS, by " + own + ", " + number + ", open " + Integer.toBinaryString(open);
                        due(what, x.walk(own), to < 0 ? 1 : 0);
                        due(what, x.walked(3), to < 0 ? own : ends + to);
                    }
                }
            }
        }
        sentence("(0: this one itself, if it is open, else none further: the first open one behind it)");
        LabyrinthGarden y = star(3, "123");
        read(y, "a:0stay a;");
        y.walk(2);
        due("itself", y.walked(3), 5);
        y.shut(2, true);
        y.walk(2);
        due("round to the first", y.walked(3), 3);
        y.shut(0, true);
        y.walk(2);
        due("round to the next", y.walked(3), 4);
        sentence("at the next BEAT he is at its other END, which is the one by which he came");
        LabyrinthGarden z = garden(2, "1", "0-0 0-0 0-1");
        read(z, "a:1stay a;");
        // By 1 to 2, comes by 3, to 4 and out; by 0 to 1, comes by 0, for ever.
        z.walk(1);
        due("out", z.walked(0), 2);
        due("ROUND", z.walk(0), 1);
        due("LAP", z.walked(2), 1);
    }

    private static void waiting() {
        sentence("if none is open, he waits for a BEAT (his STATE is the ACT's S all the same)");
        for (int wait = 0; wait < 8; wait++) {
            LabyrinthGarden x = garden(2, "1", "0-1");
            x.period(8);
            x.gate(0, 1 << wait);
            read(x, "a:3drop b;b:0take c;c:1stay d;d:9drop a;");
            x.walk(0);
            due("out behind " + wait, x.walked(0), wait + 1);
            due("STATE behind " + wait, x.walked(4), (wait + 1) % 4);
            due("MARKS behind " + wait, x.walked(5), wait % 4 == 0 || wait % 4 == 3 ? 1 : 0);
        }
        sentence("who waits is still at that END");
        LabyrinthGarden x = star(3, "123");
        x.period(2);
        for (int path = 0; path < 3; path++) {
            x.gate(path, 2);
        }
        read(x, "a:1stay b;b:1stay a;");
        for (int own = 0; own < 3; own++) {
            x.walk(own);
            due("by " + own, x.walked(3), 3 + (own + 1) % 3);
            due("when", x.walked(0), 2);
        }
    }

    private static void round(LabyrinthGarden x, int place, int lead, int lap) {
        due("walk", x.walk(place), 1);
        due("not out", x.walked(0), -1);
        due("LEAD", x.walked(1), lead);
        due("LAP", x.walked(2), lap);
    }

    private static void rounds() {
        LabyrinthGarden x = garden(1, "", "0-0");
        x.shut(0, true);
        sentence("PLACE, STATE, MARKS and BEAT modulo PERIOD at two BEATS are alike: all of them");
        read(x, "a:1stay a;");
        round(x, 0, 0, 1);
        sentence("alike: the BEAT modulo PERIOD");
        x.period(7);
        round(x, 0, 0, 7);
        x.period(1);
        sentence("alike: the STATE");
        read(x, "a:1stay b;b:1stay c;c:1stay d;d:1stay a;");
        round(x, 0, 0, 4);
        x.period(3);
        round(x, 0, 0, 12);
        x.period(1);
        read(x, "a:1stay b;b:1stay c;c:1stay d;d:1stay d;");
        round(x, 0, 3, 1);
        sentence("alike: the MARKS");
        read(x, "a:1take a|1drop a;");
        round(x, 0, 0, 2);
        x.period(5);
        round(x, 0, 0, 10);
        x.period(1);
        sentence("LEAD: the least BEAT of those that come again; LAP: how many BEATS later at first");
        read(x, "a:1drop a;");
        round(x, 0, 1, 1);
        x.mark(0, true);
        round(x, 0, 0, 1);
        x.mark(0, false);
        read(x, "a:1stay b;b:1stay c;c:1stay d;d:1stay c;");
        round(x, 0, 2, 2);
        x.period(2);
        round(x, 0, 2, 2);
        x.period(8);
        round(x, 0, 2, 8);
        sentence("alike: the PLACE");
        LabyrinthGarden y = garden(2, "", "0-1");
        read(y, "a:1stay a;");
        round(y, 0, 0, 2);
        due("at LEAD and LAP together", y.walked(3), 0);
        y.walk(1);
        due("at LEAD and LAP together", y.walked(3), 1);
    }

    /**
     * WALKS that end just at the last BEAT or a BEAT behind it, found by a search: JUNCTIONS, the one that is OUT (-1: none),
     * PERIOD, PLACE; PATHS; GATES; RULES.
     */
    private static final String[][] LONG_WALKS = {
        {"7 -1 3 0", "0-0 4-5 2-1 4-4 0-4 4-5 2-0 1-3 4-6", "", "a:3take b|3drop a;b:3take a|1drop b;c:2take b|4drop b;"},
        {"7 -1 4 3", "3-0 1-0 5-5 4-3 0-1 5-6 3-1 2-5 1-5 3-0 5-3", "3,6 2,0",
            "a:1take a|2drop c;b:4take b|0drop a;c:1take d|3drop d;d:0take c|4drop a;"},
        {"8 -1 3 10", "2-4 2-1 6-4 5-4 3-3 4-3 5-1 5-2 0-6 0-2 2-4 1-5", "",
            "a:4take a|4drop d;b:1take b|3drop c;c:1take d|0drop c;d:0take c|2drop d;"},
        {"7 -1 7 20", "3-1 1-6 5-3 5-6 3-6 3-2 0-3 0-3 1-2 4-4 5-5 4-6", "6,119 5,251",
            "a:1take d|0drop d;b:0take a|2drop b;c:0take a|2drop a;d:2take c|1drop c;"},
        {"7 6 8 21", "5-6 2-0 4-3 2-4 5-1 4-5 0-4 4-0 5-3 4-5 5-1 3-2", "0,8", "a:0take b|4drop a;b:3take a|1drop b;"},
        {"7 6 8 13", "1-6 4-5 3-2 1-4 2-3 3-2 3-0 2-1 2-4 3-0 4-5", "0,16", "a:0take b|3drop c;b:3take c|1drop b;c:1take a|0drop a;"},
        {"7 6 7 6", "1-6 2-5 3-3 0-2 2-1 2-3 1-3 4-5 0-3 4-2", "0,4", "a:0take b|3drop a;b:4take a|3drop b;"},
    };

    /** Of each: what walk() answers, and the BEAT at which he is out or LEAD and LAP together, were there no last one. */
    private static final int[][] ENDS_OF_LONG_WALKS = {{1, 1500}, {1, 1500}, {2, 1501}, {2, 1501}, {0, 1500}, {2, 1501}, {2, 1501}};

    /** Of each PLACE its JUNCTION, END, PATH and the PLACE at the other END, worked from the PATHS and not asked of an object. */
    private static final class Layout {
        final List<List<Integer>> rings = new ArrayList<>();
        final int places;
        final int[] junctionAt;
        final int[] endAt;
        final int[] pathAt;
        final int[] otherOf;
        final int[] firstOf = new int[8];

        Layout(String paths) {
            String[] all = paths.split(" ");
            places = 2 * all.length;
            for (int j = 0; j < 8; j++) {
                rings.add(new ArrayList<>());
            }
            for (int path = 0; path < all.length; path++) {
                rings.get(all[path].charAt(0) - '0').add(2 * path);
                rings.get(all[path].charAt(2) - '0').add(2 * path + 1);
            }
            junctionAt = new int[places];
            endAt = new int[places];
            pathAt = new int[places];
            otherOf = new int[places];
            List<Integer> sides = new ArrayList<>();
            for (int j = 0; j < 8; j++) {
                firstOf[j] = sides.size();
                for (int side : rings.get(j)) {
                    junctionAt[sides.size()] = j;
                    endAt[sides.size()] = sides.size() - firstOf[j];
                    pathAt[sides.size()] = side / 2;
                    sides.add(side);
                }
            }
            for (int place = 0; place < places; place++) {
                otherOf[place] = sides.indexOf(sides.get(place) ^ 1);
            }
        }

        int endsAt(int place) {
            return rings.get(junctionAt[place]).size();
        }
    }

    /** A WALK by the document's words, up to a last BEAT that may be another one than the document's. */
    private static final class Walk {
        final Layout garden;
        final int out;
        final int period;
        final Map<Integer, Integer> gates = new HashMap<>();
        final String[] lines;

        int answer;
        int beat;
        int lead = -1;
        int place;
        char state;
        String marks = "";

        Walk(String[] rows) {
            garden = new Layout(rows[1]);
            out = Integer.parseInt(rows[0].split(" ")[1]);
            period = Integer.parseInt(rows[0].split(" ")[2]);
            for (String gate : rows[2].isEmpty() ? new String[0] : rows[2].split(" ")) {
                gates.put(Integer.parseInt(gate.split(",")[0]), Integer.parseInt(gate.split(",")[1]));
            }
            lines = rows[3].split(";");
        }

        void go(int start, int last) {
            Map<String, Integer> known = new HashMap<>();
            place = start;
            state = lines[0].charAt(0);
            for (beat = 0; beat <= last; beat++) {
                if (garden.junctionAt[place] == out) {
                    answer = 0;
                    return;
                }
                Integer before = known.put(place + " " + state + " " + marks + " " + beat % period, beat);
                if (before != null) {
                    lead = before;
                    answer = 1;
                    return;
                }
                if (beat < last) {
                    step();
                }
            }
            beat = last;
            answer = 2;
        }

        private void step() {
            int junction = garden.junctionAt[place];
            for (String line : lines) {
                if (line.charAt(0) == state) {
                    String[] acts = line.substring(2).split("\\|");
                    boolean marked = marks.indexOf('0' + junction) >= 0;
                    String act = marked || acts.length == 1 ? acts[0] : acts[1];
                    if (act.startsWith("take", 1)) {
                        marks = marks.replace("" + junction, "");
                    } else if (act.startsWith("drop", 1) && !marked) {
                        marks = sorted(marks + junction);
                    }
                    turn(garden.firstOf[junction], act.charAt(0) - '0');
                    state = act.charAt(act.length() - 1);
                    return;
                }
            }
        }

        private static String sorted(String text) {
            char[] signs = text.toCharArray();
            Arrays.sort(signs);
            return new String(signs);
        }

        private void turn(int first, int number) {
            int ends = garden.endsAt(place);
            int open = 0;
            for (int end = 0; end < ends; end++) {
                open |= (gates.getOrDefault(garden.pathAt[first + end], 255) >> beat % period & 1) << end;
            }
            int to = chosen(ends, garden.endAt[place], number, open);
            place = to < 0 ? place : garden.otherOf[first + to];
        }
    }

    private static LabyrinthGarden longGarden(String[] rows) {
        String[] numbers = rows[0].split(" ");
        LabyrinthGarden x = garden(Integer.parseInt(numbers[0]), numbers[1].equals("-1") ? "" : numbers[1], rows[1]);
        x.period(Integer.parseInt(numbers[2]));
        for (String gate : rows[2].isEmpty() ? new String[0] : rows[2].split(" ")) {
            x.gate(Integer.parseInt(gate.split(",")[0]), Integer.parseInt(gate.split(",")[1]));
        }
        read(x, rows[3]);
        return x;
    }

    private static void lastBeat() {
        for (int i = 0; i < LONG_WALKS.length; i++) {
            String[] rows = LONG_WALKS[i];
            int start = Integer.parseInt(rows[0].split(" ")[3]);
            sentence("Up to BEAT 1500: the test's own WALK " + i + ", were there no last BEAT");
            Walk endless = new Walk(rows);
            endless.go(start, 5000);
            due("out or ROUND", endless.answer, rows[0].contains("-1") ? 1 : 0);
            due("when", endless.beat, ENDS_OF_LONG_WALKS[i][1]);
            sentence("who is neither out nor was found to go ROUND by then (at two BEATS of 0 .. 1500) is SPENT, WALK " + i);
            Walk walk = new Walk(rows);
            walk.go(start, LAST_BEAT);
            LabyrinthGarden x = longGarden(rows);
            due("walk", x.walk(start), ENDS_OF_LONG_WALKS[i][0]);
            due("walk", walk.answer, ENDS_OF_LONG_WALKS[i][0]);
            due("out", x.walked(0), walk.answer == 0 ? 1500 : -1);
            due("LEAD", x.walked(1), walk.lead);
            due("LAP", x.walked(2), walk.answer == 1 ? 1500 - walk.lead : -1);
            due("PLACE", x.walked(3), walk.place);
            due("STATE", x.walked(4), walk.state - 'a');
            due("MARKS", x.walked(5), walk.marks.length());
            sentence("LOST: PLACES from which a WALK isn't out, WALK " + i);
            due("who is SPENT is LOST", x.lost() >> start & 1, walk.answer == 0 ? 0 : 1);
        }
    }

    private static void walked() {
        sentence("NONE ahead of any");
        LabyrinthGarden x = garden(3, "1", "0-1 2-2");
        for (int what = 0; what < 6; what++) {
            due("walked " + what, x.walked(what), -1);
        }
        due("without RULES", x.walk(0), -1);
        read(x, "c:1drop d;d:0stay d;");
        due("no such PLACE", x.walk(4) + x.walk(-1), -2);
        for (int what = 0; what < 6; what++) {
            due("walked " + what, x.walked(what), -1);
        }
        sentence("what 0: the BEAT at which he was out (NONE), 1: LEAD (NONE), 2: LAP (NONE)");
        due("out", x.walk(0), 0);
        int[] out = {1, -1, -1, 1, 3, 1};
        for (int what = -1; what < 8; what++) {
            due("out: walked " + what, x.walked(what), what < 0 || what > 5 ? -1 : out[what]);
        }
        // He goes to the loop's other END, then by 0 to and fro.
        due("ROUND", x.walk(2), 1);
        int[] round = {-1, 1, 2, 2, 3, 1};
        for (int what = -1; what < 8; what++) {
            due("ROUND: walked " + what, x.walked(what), what < 0 || what > 5 ? -1 : round[what]);
        }
        sentence("Of the latest walk() that was not NONE");
        due("no such PLACE", x.walk(4), -1);
        due("walked", x.walked(1), 1);
        read(x, "");
        due("without RULES", x.walk(0), -1);
        due("walked", x.walked(1), 1);
    }

    private static void lost() {
        sentence("LOST (bits of PLACES); NONE: no RULES");
        LabyrinthGarden x = new LabyrinthGarden();
        due("no RULES", x.lost(), -1);
        read(x, "a:1stay a;");
        due("no PLACES", x.lost(), 0);
        x.junction(false);
        due("no PLACES", x.lost(), 0);
        LabyrinthGarden y = garden(4, "", "0-0 0-0 0-0 1-1 1-1 1-1 2-2 2-2 2-2 3-3 3-3 3-3");
        read(y, "a:1stay a;");
        due("24 PLACES", y.lost(), 0xFFFFFF);
        LabyrinthGarden z = garden(4, "012", "0-0 0-0 0-0 1-1 1-1 1-1 2-2 2-2 2-2 3-3 3-3 3-3");
        read(z, "a:1stay a;");
        due("the last six", z.lost(), 0xFC0000);
        LabyrinthGarden all = garden(4, "0123", "0-0 0-0 0-0 1-1 1-1 1-1 2-2 2-2 2-2 3-3 3-3 3-3");
        read(all, "a:1stay a;");
        due("nobody", all.lost(), 0);
    }

    private static void help(LabyrinthGarden x, int what, int... set) {
        due("how many", x.help(what), set.length);
        for (int k = 0; k < set.length; k++) {
            due("the " + k + "-th", x.helped(k), set[k]);
        }
        due("behind the last", x.helped(set.length), -1);
    }

    private static void toMark() {
        sentence("sets of at most 2 JUNCTIONS without a MARK");
        // 0, 2 and 4 lie each between a dead end and the OUT: without a MARK one goes to and fro for ever.
        LabyrinthGarden x = garden(7, "6", "0-1 0-6 2-3 2-6 4-5 4-6");
        read(x, "a:1stay a|0stay a;");
        due("three are too many", x.help(0), -1);
        x.mark(2, true);
        help(x, 0, 0, 4);
        x.mark(4, true);
        help(x, 0, 0);
        x.mark(0, true);
        help(x, 0);
        due("the GARDEN's MARKS", x.count(3), 3);
        sentence("the one with the fewest; of several the first by numbers, rising");
        LabyrinthGarden y = garden(3, "2", "0-1 1-2 0-2");
        read(y, "a:1stay a|0stay a;");
        help(y, 0, 0);
        LabyrinthGarden two = garden(5, "4", "0-1 1-4 0-4 2-3 3-4 2-4");
        read(two, "a:1stay a|0stay a;");
        help(two, 0, 0, 2);
        two.mark(3, true);
        help(two, 0, 0);
        sentence("JUNCTIONS without a MARK, whatever PATHS are SHUT");
        LabyrinthGarden shut = garden(5, "4", "4-4 0-1 0-4 2-3 2-4");
        read(shut, "a:1stay a|0stay a;");
        shut.shut(0, true);
        help(shut, 0, 0, 2);
        shut.mark(0, true);
        help(shut, 0, 2);
        sentence("the last two JUNCTIONS");
        LabyrinthGarden z = garden(8, "5", "6-0 6-5 7-1 7-5");
        read(z, "a:1stay a|0stay a;");
        help(z, 0, 6, 7);
        z.mark(6, true);
        help(z, 0, 7);
        sentence("or there is no such set");
        LabyrinthGarden none = garden(2, "", "0-1");
        read(none, "a:1stay a|0stay a;");
        due("none is OUT", none.help(0), -1);
        none.mark(0, true);
        none.mark(1, true);
        due("all have MARKS", none.help(0), -1);
        sentence("nobody is LOST without PLACES");
        LabyrinthGarden empty = garden(2, "", "");
        read(empty, "a:1stay a;");
        help(empty, 0);
        help(empty, 1);
    }

    private static void toShut() {
        sentence("likewise of PATHS that aren't SHUT");
        // By a loop's first END one goes through its second and comes by the first again.
        LabyrinthGarden x = garden(4, "3", "0-0 0-3 1-1 1-3 2-2 2-3");
        read(x, "a:1stay a;");
        due("three are too many", x.help(1), -1);
        x.shut(2, true);
        help(x, 1, 0, 4);
        x.shut(0, true);
        help(x, 1, 4);
        x.shut(4, true);
        help(x, 1);
        x.shut(1, true);
        due("the way out is SHUT", x.help(1), -1);
        sentence("the fewest, and the first by numbers, of PATHS");
        LabyrinthGarden y = garden(3, "2", "0-1 1-2 0-2");
        read(y, "a:0stay a;");
        help(y, 1, 0);
        LabyrinthGarden two = garden(5, "4", "0-1 1-4 0-4 2-3 3-4 2-4");
        read(two, "a:0stay a;");
        help(two, 1, 0, 3);
        sentence("PATHS that aren't SHUT, whatever MARKS there are");
        LabyrinthGarden marked = garden(4, "3", "0-0 0-3 1-1 1-3");
        read(marked, "a:1stay a;");
        marked.mark(0, true);
        marked.mark(2, true);
        help(marked, 1, 0, 2);
        sentence("nobody is LOST: from the last PLACE neither, nor from the first");
        LabyrinthGarden lastLost = garden(2, "0", "0-1 1-1");
        read(lastLost, "a:2stay a;");
        due("the last alone is LOST", lastLost.lost(), 8);
        due("to MARK", lastLost.help(0), -1);
        help(lastLost, 1, 1);
        LabyrinthGarden firstLost = garden(2, "1", "0-0 0-1");
        read(firstLost, "a:1stay a;");
        due("the first alone is LOST", firstLost.lost(), 1);
        due("to MARK", firstLost.help(0), -1);
        help(firstLost, 1, 0);
        sentence("nobody is LOST, in a smaller GARDEN than the one ahead");
        for (int place = 0; place < 24; place += 6) {
            LabyrinthGarden less = garden(4, "0123".replace("" + place / 6, ""), "0-0 0-0 0-0 1-1 1-1 1-1 2-2 2-2 2-2 3-3 3-3 3-3");
            read(less, "a:2stay a;");
            due("some are LOST", less.help(1), -1);
            less.anew();
            lay(less, 2, "0", "0-1 1-1");
            help(less, 1, 1);
            less.anew();
            lay(less, 2, "0", "0-1 1-1");
            due("to MARK", less.help(0), -1);
        }
        sentence("the last two PATHS");
        LabyrinthGarden z = garden(8, "4567", "0-7 1-7 4-4 5-5 6-6 4-5 5-6 6-4 4-7 5-7 0-0 1-1");
        read(z, "a:1stay a;");
        due("all are there", z.count(1), 12);
        help(z, 1, 10, 11);
        z.shut(10, true);
        help(z, 1, 11);
    }

    private static void helped() {
        sentence("The k-th of the latest help() that told a number; NONE if there is none such");
        LabyrinthGarden x = garden(4, "3", "0-0 0-3 1-1 1-3 2-2 2-3");
        due("ahead of any", x.helped(0), -1);
        read(x, "a:1stay a;");
        due("no number", x.help(1), -1);
        due("ahead of any", x.helped(0), -1);
        x.shut(0, true);
        help(x, 1, 2, 4);
        due("below 0", x.helped(-1), -1);
        due("no number", x.help(0), -1);
        due("the one ahead", x.helped(0) * 10 + x.helped(1), 24);
        due("no such what", x.help(2), -1);
        due("the one ahead", x.helped(0) * 10 + x.helped(1), 24);
        x.shut(2, true);
        x.shut(4, true);
        help(x, 0);
        due("a number of 0: none such", x.helped(0), -1);
    }

    private static void tales() {
        sentence("at a JUNCTION with so many ENDS; not 0 .. 6");
        // JUNCTION j has j ENDS, but 7 has one.
        LabyrinthGarden x = garden(8, "36", "6-6 6-6 6-5 6-5 5-5 5-4 4-4 4-3 3-2 3-2 1-7");
        long[] here = {0, 1 | 1L << 21, 3L << 1, 7L << 3, 15L << 6, 31L << 10, 63L << 15};
        for (int ends = -1; ends <= 7; ends++) {
            due("tale " + ends, x.tale(ends), ends < 0 || ends > 6 ? -1 : here[ends]);
            due("TURNS", x.count(4), ends < 0 ? -1 : 0);
        }
        sentence("what was seen at each JUNCTION, the first and the last too");
        due("3 ENDS", x.tale(3), 7L << 3);
        // From 3 by its END 0 to the last END of 4, by 1 and 2 to those of 2.
        due("then 2", x.turn(0, 2), 6);
        due("then 6: nowhere", x.turn(0, 6), 0);
        due("nowhere for ever", x.turn(0, 3), 0);
        due("TURNS", x.count(4), 3);
        x.tale(3);
        due("then 4", x.turn(0, 4), 1L << 9);
        due("0 ENDS are nowhere", x.turn(0, 0), 0);
        sentence("One TURN more, and how many ENDS are seen then: not 0 .. 6");
        x.tale(6);
        due("7", x.turn(0, 7), -1);
        due("-1", x.turn(0, -1), -1);
        due("6", x.turn(0, 6), 15L << 15);
        due("TURNS", x.count(4), 1);
    }

    private static void turnsOfTales() {
        sentence("a TURN of k leads through the END that is k further on by the RING (modulo how many there are)");
        for (int ends = 2; ends <= 6; ends++) {
            // Tip 1 has loops, so that what is seen there is seen nowhere else.
            LabyrinthGarden x = star(ends, "1");
            x.path(1, 1);
            if (ends == 3) {
                x.path(1, 1);
            }
            int seen = ends == 3 ? 5 : 3;
            for (int own = 0; own < ends; own++) {
                for (int k = 0; k <= 9; k++) {
                    x.tale(seen);
                    due("to the middle", x.turn(0, ends), 1);
                    x.turn(own, own == 0 ? seen : 1);
                    due("back by " + own, x.turn(0, ends) & 63, 1L << own);
                    int to = (own + k) % ends;
                    due(ends + " ENDS, by " + own + ", TURN " + k, x.turn(k, to == 0 ? seen : 1) >> x.place(to + 1, 0) & 1, 1);
                    due("TURNS", x.count(4), 4);
                }
                due("no such TURN", x.turn(10, 1), -1);
                due("no such TURN", x.turn(-1, 1), -1);
            }
        }
        sentence("8 at most");
        LabyrinthGarden y = garden(2, "", "0-1");
        due("no TALE", y.turn(0, 1), -1);
        due("begun", y.tale(1), 3);
        for (int i = 1; i <= 8; i++) {
            due("turn " + i, y.turn(9, 1), 3);
            due("TURNS", y.count(4), i);
        }
        due("ninth", y.turn(9, 1), -1);
        due("TURNS", y.count(4), 8);
        due("begun again", y.tale(1), 3);
        due("TURNS", y.count(4), 0);
        due("first", y.turn(0, 1), 3);
        sentence("without GATES, SHUT and OUT");
        LabyrinthGarden z = garden(3, "01", "0-1 0-2");
        z.shut(0, true);
        z.gate(1, 0);
        due("at the OUT with 2", z.tale(2), 3);
        due("to 1 and 2", z.turn(1, 1), 12);
        due("back", z.turn(3, 2), 3);
        due("home", z.home(), garden(3, "", "0-1 0-2").home());
    }

    /** What learn() found: by TURN and PLACE where one comes; by PLACE how many ENDS are seen. */
    private static int[][] ways = new int[0][];
    private static int[] endsThere = new int[0];

    private static void learn(String paths) {
        Layout garden = new Layout(paths);
        ways = new int[10][garden.places];
        endsThere = new int[garden.places];
        for (int place = 0; place < garden.places; place++) {
            endsThere[place] = garden.endsAt(place);
            for (int turn = 0; turn < 10; turn++) {
                int end = (garden.endAt[place] + turn) % garden.endsAt(place);
                ways[turn][place] = garden.otherOf[garden.firstOf[garden.junctionAt[place]] + end];
            }
        }
    }

    /** The first of the shortest TALES of at most so many TURNS, none above highest, that tell where one is; null: none. */
    private static int[] shortest(int most, int highest) {
        for (int length = 0; length <= most; length++) {
            int[] turns = new int[length];
            boolean more = true;
            while (more) {
                if (tells(turns)) {
                    return turns;
                }
                int i = length - 1;
                while (i >= 0 && turns[i] == highest) {
                    turns[i] = 0;
                    i--;
                }
                more = i >= 0;
                if (more) {
                    turns[i]++;
                }
            }
        }
        return null;
    }

    private static boolean tells(int[] turns) {
        Map<Long, Integer> known = new HashMap<>();
        for (int start = 0; start < endsThere.length; start++) {
            int at = start;
            long seen = endsThere[at];
            for (int turn : turns) {
                at = ways[turn][at];
                seen = seen * 7 + endsThere[at];
            }
            Integer other = known.put(seen, at);
            if (other != null && other != at) {
                return false;
            }
        }
        return true;
    }

    private static int number(int[] turns) {
        int number = turns == null ? -1 : turns.length;
        for (int i = 0; turns != null && i < turns.length; i++) {
            number = number * 10 + turns[i];
        }
        return number;
    }

    private static int homeOf(LabyrinthGarden x) {
        int home = x.home();
        if (home < 0) {
            return home;
        }
        int[] turns = new int[home];
        for (int k = 0; k < home; k++) {
            turns[k] = x.homing(k);
        }
        due("behind the last", x.homing(home), -1);
        return number(turns);
    }

    private static void home(String paths, int want) {
        learn(paths);
        due("the test's own search", number(shortest(5, 5)), want);
        LabyrinthGarden x = garden(6, "", paths);
        due("home", homeOf(x), want);
        due("home again", homeOf(x), want);
    }

    private static void homes() {
        sentence("the least number of TURNS (0 .. 5)");
        due("without PLACES", homeOf(garden(8, "", "")), 0);
        String[] paths = {"0-1 0-0", "2-1 1-0 0-1", "1-0 0-0 2-0 1-2", "1-4 0-3 0-4 1-4", "0-2 0-0 2-2 0-2 0-0"};
        int[] turns = {201, 3011, 40111, 501111, 501121};
        for (int i = 0; i < paths.length; i++) {
            home(paths[i], turns[i]);
        }
        sentence("HOME of one GARDEN, then of another");
        LabyrinthGarden other = new LabyrinthGarden();
        for (int i = paths.length - 1; i >= 0; i--) {
            other.anew();
            lay(other, 6, "", paths[i]);
            due("home", homeOf(other), turns[i]);
        }
        sentence("six TURNS are too many");
        learn("0-0 1-0 0-1 1-0 0-1");
        int[] six = shortest(6, 5);
        due("the test's own search", six == null ? -1 : six.length, 6);
        home("0-0 1-0 0-1 1-0 0-1", -1);
        sentence("of several the first by TURNS (0 .. 5 each): a TURN of 5");
        home("0-0 2-0 0-1 1-0 2-1 0-1", 3015);
        home("1-0 2-2 2-1 0-0 1-1 1-1", 501125);
        sentence("of several the first by TURNS (0 .. 5 each): a TURN of 0");
        home("0-0 2-1 1-2 3-2 1-0 0-0 0-3", 40101);
        home("0-0 1-0 1-3 2-3 0-1 3-3 0-3", 501031);
        sentence("of several the first by TURNS (0 .. 5 each): none of 6 .. 9");
        learn("3-0 0-3 0-1 2-1 0-1 0-1");
        due("with TURNS up to 6", number(shortest(5, 6)), 3016);
        home("3-0 0-3 0-1 2-1 0-1 0-1", 40111);
        learn("1-4 3-1 1-3 1-3 4-5 4-3 4-1");
        due("a TALE with a 6", tells(new int[] {0, 2, 6, 3, 2}), true);
        home("1-4 3-1 1-3 1-3 4-5 4-3 4-1", -1);
        learn("0-1 2-3 2-0 2-2 2-3");
        due("with TURNS up to 7", number(shortest(5, 7)), 3017);
        home("0-1 2-3 2-0 2-2 2-3", number(shortest(5, 5)));
        due("with TURNS up to 5", number(shortest(5, 5)) / 10000, 4);
        sentence("NONE: there is none");
        due("one loop", garden(1, "", "0-0").home(), -1);
        due("one path", garden(2, "", "0-1").home(), -1);
        due("all alike", garden(4, "", "0-0 0-0 0-0 1-1 1-1 1-1 2-2 2-2 2-2 3-3 3-3 3-3").home(), -1);
    }

    private static void homing() {
        sentence("The k-th TURN of the latest home() that told a number; NONE if there is none such");
        LabyrinthGarden x = garden(2, "", "0-1");
        due("ahead of any", x.homing(0), -1);
        due("no number", x.home(), -1);
        due("ahead of any", x.homing(0), -1);
        x.path(0, 0);
        due("home", homeOf(x), 201);
        due("below 0", x.homing(-1), -1);
        due("behind the last", x.homing(2), -1);
        x.path(1, 1);
        due("two alike", x.home(), -1);
        due("the one ahead", x.homing(0) * 10 + x.homing(1), 1);
        x.anew();
        due("a number of 0", x.home(), 0);
        due("none such", x.homing(0), -1);
        due("none such", x.homing(1), -1);
    }

    private static void manyCalls() {
        sentence("An object is used for at most 512 calls");
        LabyrinthGarden x = garden(3, "2", "0-1 1-2 0-2");
        for (int call = 6; call < 505; call += 3) {
            x.feed(0x61203A20, 0x3120746B, call, 0, 0);
            x.rules(20);
            x.home();
        }
        due("feed", x.feed(four("a:1s", 0), four("tay ", 0), four("a|0s", 0), four("tay ", 0), four("a;  ", 0)), 20);
        due("rules", x.rules(20), 1);
        due("lost", x.lost(), 5);
        due("help", x.help(0), 1);
        due("the 512th or so", x.helped(0), 0);
    }
}

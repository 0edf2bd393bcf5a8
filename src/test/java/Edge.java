import java.util.function.Supplier;
import java.util.function.ToIntFunction;

/** What the boundary tests share: the sentence under test, answers that are due, calls that change nothing. */
final class Edge {
    static final int UNKNOWN = -1, OUTSIDE = -2, STATE = -3, FULL = -4, NONE = -9;

    static final int LEAST = Integer.MIN_VALUE;
    static final int MOST = Integer.MAX_VALUE;
    // 32 and 35: a set's bit for them would be that of 0 and of 3.
    static final int[] NO_HOSTS = {-1, 4, 5, 32, 35, LEAST, MOST};

    private static int promise = 0;
    private static String sentence = "";
    private static int tests = 0;
    private static int answers = 0;
    private static int wrong = 0;

    private Edge() { }

    /** A test of one sentence of the document, told under the head of one promise. */
    static void test(int number, String words, Runnable body) {
        promise = number;
        sentence = words;
        tests++;
        body.run();
    }

    static void due(String call, long got, long want) {
        answers++;
        if (got != want) {
            tell(call + " answered " + got + ", due is " + want);
        }
    }

    /** The call's answer is due, and all that can be asked is as it is without the call. */
    static void unchanged(String call, Supplier<LostHosts> made, ToIntFunction<LostHosts> asked, int want) {
        LostHosts x = made.get();
        due(call, asked.applyAsInt(x), want);
        String with = picture(x);
        String without = picture(made.get());
        answers++;
        if (!with.equals(without)) {
            tell(call + " changes something:\n" + without + "became\n" + with);
        }
    }

    private static void tell(String fault) {
        wrong++;
        System.out.println("promise " + promise + ", \"" + sentence + "\": " + fault);
    }

    /** Numbers that are no OBJECT's while so many were made; 32 and more as for NO_HOSTS. */
    static int[] noObjects(int made) {
        return new int[] {-1, made, 10, 11, 32, 31 + made, LEAST, MOST};
    }

    /** All that the state can be told from, in calls few enough to stay below the 512. */
    private static String picture(LostHosts x) {
        StringBuilder s = new StringBuilder();
        int made = 0;
        while (made < 10 && x.ofObject(made, 0) != UNKNOWN) {
            made++;
        }
        for (int a = 0; a < made; a++) {
            s.append("  OBJECT ").append(a).append(':');
            for (int what = 0; what < 7; what++) {
                s.append(' ').append(x.ofObject(a, what));
            }
            s.append(", WEIGHTS");
            for (int b = 0; b < made; b++) {
                s.append(' ').append(x.weight(a, b));
            }
            s.append('\n');
        }
        int letters = x.many(1);
        for (int k = 0; k < letters; k++) {
            s.append("  LETTER ").append(k).append(':');
            for (int what = 2; what < 5; what++) {
                s.append(' ').append(x.letter(k, what));
            }
            s.append('\n');
        }
        s.append("  UP ").append(x.many(4)).append(", FILLED ").append(x.many(6)).append('\n');
        return s.toString();
    }

    static void end(String name) {
        System.out.println(name + ": " + tests + " sentences, " + answers + " answers, " + wrong + " not as due");
        if (wrong != 0) {
            System.exit(1);
        }
    }

    // Settings.

    /** A LostHosts with an OBJECT for each digit, its HOST, a ROOT if 'R' stands behind it. */
    static LostHosts with(String objects) {
        LostHosts x = new LostHosts();
        for (int i = 0; i < objects.length(); i++) {
            if (objects.charAt(i) != 'R') {
                x.object(objects.charAt(i) - '0', i + 1 < objects.length() && objects.charAt(i + 1) == 'R');
            }
        }
        return x;
    }

    /** LINKS told as "01 12": from 0 to 1, from 1 to 2. */
    static void links(LostHosts x, String pairs) {
        for (String pair : pairs.split(" ")) {
            due("setting up: link " + pair, x.link(pair.charAt(0) - '0', pair.charAt(1) - '0'), 1);
        }
    }

    /**
     * Something of all: ROOTS 0 (HOST 0), 1 (HOST 1), 3 (HOST 2), others 2 (HOST 0) and 5 (HOST 1); 4 is GONE
     * from HOST 0, 6 from HOST 3, that is DEAD; NEAR and FAR LINKS; two GRANTS, then a RETURN.
     */
    static LostHosts busy() {
        LostHosts x = with("0R1R02R013R");
        links(x, "01 02 03 15 21");
        due("setting up: give", x.give(0, 1, 2), 1);
        due("setting up: give", x.give(0, 1, 3), 1);
        due("setting up: unlink", x.unlink(2, 1), 1);
        due("setting up: collect", x.collect(0), 1);
        due("setting up: kill", x.kill(3), 1);
        return x;
    }

    /** Ten OBJECTS, each a ROOT, on HOSTS 0, 1, 2, 3, 0, 1 and so on. */
    static LostHosts ten() {
        return with("0R1R2R3R0R1R2R3R0R1R");
    }

    /** OBJECT 0 and 2 on HOST 0, ROOTS 1 on HOST 1, 3 on HOST 2; 0 has LINKS to all; so many GRANTS of 0 to 1. */
    static LostHosts lettered(int grants) {
        LostHosts x = with("01R02R");
        links(x, "01 02 03");
        for (int i = 0; i < grants; i++) {
            due("setting up: give " + i, x.give(0, 1, 0), 1);
        }
        return x;
    }

    static LostHosts full() {
        return lettered(60);
    }

    /** OBJECTS 0, 1 on HOST 0, with a NEAR LINK; a FAR LINK from 0 to the ROOT 2, SPLIT so many times to 1. */
    static LostHosts splitOff(int times) {
        LostHosts x = with("001R");
        links(x, "01 02");
        for (int i = 0; i < times; i++) {
            due("setting up: give " + i, x.give(0, 1, 2), 0);
        }
        return x;
    }
}

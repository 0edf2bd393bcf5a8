/** For each promise of ../shared/DOC.md what it asks: ordinary runs, edges, refusals in their order. */
public final class PromiseTests {
    private static final int UNKNOWN = -1, OUTSIDE = -2, STATE = -3, FULL = -4, NONE = -9;

    private static int wrong = 0;
    private static int asked = 0;

    private static void due(String what, int got, int want) {
        asked++;
        if (got != want) {
            wrong++;
            System.out.println(what + ": answered " + got + ", due is " + want);
        }
    }

    /** A LostHosts with an OBJECT for each sign: its HOST as a digit, a ROOT if 'R' stands behind it. */
    private static LostHosts with(String objects) {
        LostHosts x = new LostHosts();
        for (int i = 0; i < objects.length(); i++) {
            if (objects.charAt(i) != 'R') {
                x.object(objects.charAt(i) - '0', i + 1 < objects.length() && objects.charAt(i + 1) == 'R');
            }
        }
        return x;
    }

    /** OBJECT 0 on HOST 0, OBJECT 1, a ROOT, on HOST 1, a LINK from 0 to 1, and so many GRANTS of 0 to 1. */
    private static LostHosts withGrants(int grants) {
        LostHosts x = with("01R");
        due("setting up: link", x.link(0, 1), 1);
        for (int i = 0; i < grants; i++) {
            due("setting up: give " + i, x.give(0, 1, 0), 1);
        }
        return x;
    }

    /** An UP HOST's OBJECT 2, that is GONE; OBJECTS 0 (HOST 0) and 1 (HOST 1) are ROOTS. */
    private static LostHosts withGone() {
        LostHosts x = with("0R1R2");
        due("setting up: collect", x.collect(2), 1);
        return x;
    }

    private static void promise1New() {
        LostHosts x = new LostHosts();
        due("1 no OBJECTS", x.many(0), 0);
        due("1 no LETTERS", x.many(1), 0);
        due("1 no NEAR LINKS", x.many(2), 0);
        due("1 no FAR LINKS", x.many(3), 0);
        due("1 HOSTS UP", x.many(4), 4);
        due("1 nothing lost", x.many(5), 0);
        due("1 nothing FILLED", x.many(6), 0);
        due("1 balanced", x.many(7), 1);
        due("1 nothing REACHED", x.reached(), 0);
        due("1 no OBJECT 0", x.ofObject(0, 0), UNKNOWN);
        due("1 no LETTER 0", x.letter(0, 0), UNKNOWN);
        for (int h = 0; h < 4; h++) {
            due("1 HOST UP", x.collect(h), 0);
            due("1 nothing stays", x.stays(h), 0);
            due("1 nothing old", x.old(h, 0), 0);
        }
        x.object(0, true);
        due("1 two are apart", new LostHosts().many(0), 0);
    }

    private static void promise2Object() {
        LostHosts x = new LostHosts();
        for (int i = 0; i < 10; i++) {
            due("2 number", x.object(i % 4, i % 3 == 0), i);
            due("2 HOST", x.ofObject(i, 0), i % 4);
            due("2 ROOT", x.ofObject(i, 1), i % 3 == 0 ? 1 : 0);
            due("2 lives", x.ofObject(i, 2), 1);
            due("2 OUT", x.ofObject(i, 3), 0);
            due("2 AGE", x.ofObject(i, 4), 0);
            due("2 no LINKS from it", x.ofObject(i, 5), 0);
            due("2 no LINKS to it", x.ofObject(i, 6), 0);
        }
        due("2 ten at most", x.object(0, true), FULL);
        due("2 ten", x.many(0), 10);
        due("2 HOST -1", x.object(-1, true), UNKNOWN);
        due("2 HOST 4", x.object(4, false), UNKNOWN);
        due("2 far below", x.object(Integer.MIN_VALUE, false), UNKNOWN);
        due("2 far beyond", x.object(Integer.MAX_VALUE, false), UNKNOWN);
        x.kill(3);
        due("2 DEAD goes ahead of FULL", x.object(3, true), STATE);
        due("2 GONE ones count among the ten", x.object(0, true), FULL);
        LostHosts y = withGone();
        due("2 a number never comes again", y.object(2, false), 3);
    }

    private static void promise3Root() {
        LostHosts x = withGone();
        due("3 it was so", x.root(0, true), 0);
        due("3 no more", x.root(0, false), 1);
        due("3 no ROOT", x.ofObject(0, 1), 0);
        due("3 it was no ROOT", x.root(0, false), 0);
        due("3 again", x.root(0, true), 1);
        due("3 ROOT", x.ofObject(0, 1), 1);
        due("3 the other is as it was", x.ofObject(1, 1), 1);
        due("3 GONE", x.root(2, true), STATE);
        due("3 GONE, false", x.root(2, false), STATE);
        due("3 OBJECT 3", x.root(3, true), UNKNOWN);
        due("3 OBJECT -1", x.root(-1, true), UNKNOWN);
        due("3 OBJECT 10", x.root(10, true), UNKNOWN);
    }

    private static void promise4Link() {
        LostHosts x = with("001R12");
        x.collect(2);
        due("4 NEAR", x.link(0, 1), 1);
        due("4 NEAR has WEIGHT 0", x.weight(0, 1), 0);
        due("4 NEAR gives nothing out", x.ofObject(1, 3), 0);
        due("4 there is one", x.link(0, 1), 0);
        due("4 FAR", x.link(0, 2), 1);
        due("4 WEIGHT", x.weight(0, 2), 64);
        due("4 OUT", x.ofObject(2, 3), 64);
        due("4 there is a FAR one", x.link(0, 2), 0);
        due("4 nothing changed", x.weight(0, 2), 64);
        due("4 nothing given out", x.ofObject(2, 3), 64);
        due("4 a second FAR one", x.link(1, 2), 1);
        due("4 OUT of both", x.ofObject(2, 3), 128);
        due("4 no ROOT on another HOST", x.link(0, 3), STATE);
        due("4 no LINK came", x.weight(0, 3), NONE);
        due("4 a ROOT's LINK to no ROOT", x.link(2, 0), STATE);
        due("4 no ROOT on one HOST", x.link(2, 3), 1);
        due("4 one", x.link(2, 2), STATE);
        due("4 to a GONE one", x.link(0, 4), STATE);
        due("4 from a GONE one", x.link(4, 2), STATE);
        x.object(0, false);
        x.object(3, true);
        x.kill(3);
        due("4 to a GONE ROOT", x.link(0, 6), STATE);
        due("4 a GONE ROOT, OUT", x.ofObject(6, 3), 0);
        due("4 the way back is another LINK", x.weight(1, 0), NONE);
        due("4 a -1", x.link(-1, 0), UNKNOWN);
        due("4 b -1", x.link(0, -1), UNKNOWN);
        due("4 a 7", x.link(7, 0), UNKNOWN);
        due("4 b 7", x.link(0, 7), UNKNOWN);
        due("4 both 7", x.link(7, 7), UNKNOWN);
        due("4 b 10", x.link(0, 10), UNKNOWN);
        x.root(2, false);
        due("4 STATE goes ahead, though there is one", x.link(0, 2), STATE);
        promise4Age();
    }

    private static void promise4Age() {
        LostHosts x = with("0R1R1");
        x.link(0, 1);
        x.link(1, 2);
        x.root(1, false);
        x.collect(1);
        x.collect(1);
        due("4 AGE", x.ofObject(2, 4), 2);
        due("4 the LINK is there", x.link(1, 2), 0);
        due("4 AGE stays", x.ofObject(2, 4), 2);
        x.link(2, 1);
        due("4 AGE as a NEAR LINK comes", x.ofObject(1, 4), 0);
        x.collect(1);
        x.unlink(1, 2);
        x.link(1, 2);
        due("4 AGE of the one it leads to", x.ofObject(2, 4), 0);
        due("4 AGE of the one it comes from", x.ofObject(1, 4), 1);
        x.root(1, true);
        x.object(3, false);
        x.link(3, 1);
        due("4 AGE as a FAR LINK comes", x.ofObject(1, 4), 0);
    }

    private static void promise5Unlink() {
        LostHosts x = with("001R2");
        x.link(0, 1);
        x.link(0, 2);
        due("5 NEAR", x.unlink(0, 1), 0);
        due("5 no LINK", x.weight(0, 1), NONE);
        due("5 no LETTER for a NEAR one", x.many(1), 0);
        due("5 FAR", x.unlink(0, 2), 1);
        due("5 no FAR LINK", x.weight(0, 2), NONE);
        due("5 a RETURN", x.letter(0, 0), 1);
        due("5 to the HOST of b", x.letter(0, 1), 1);
        due("5 of its WEIGHT", x.letter(0, 2), 64);
        due("5 of b", x.letter(0, 3), 2);
        due("5 OUT till it arrives", x.ofObject(2, 3), 64);
        due("5 none is there", x.unlink(0, 2), STATE);
        due("5 to itself", x.unlink(0, 0), STATE);
        x.collect(2);
        due("5 GONE", x.unlink(3, 0), STATE);
        due("5 a 4", x.unlink(4, 0), UNKNOWN);
        due("5 b 4", x.unlink(0, 4), UNKNOWN);
        due("5 a -1", x.unlink(-1, 0), UNKNOWN);
        due("5 b -1", x.unlink(0, -1), UNKNOWN);
        LostHosts y = withGrants(59);
        y.object(0, false);
        y.object(2, true);
        y.link(0, 2);
        y.link(0, 3);
        due("5 the 60th LETTER", y.unlink(0, 3), 1);
        due("5 FULL", y.unlink(0, 1), FULL);
        due("5 FULL changes nothing", y.weight(0, 1), 64);
        due("5 60 LETTERS", y.many(1), 60);
        due("5 STATE goes ahead of FULL", y.unlink(0, 3), STATE);
        due("5 NEAR is never FULL", y.unlink(0, 2), 0);
        y.deliver(0);
        due("5 room again", y.unlink(0, 1), 1);
    }

    private static void promise6OfObject() {
        LostHosts x = with("3R3001R");
        x.link(0, 1);
        x.link(0, 4);
        x.link(2, 4);
        x.link(3, 0);
        x.link(2, 3);
        due("6 HOST", x.ofObject(4, 0), 1);
        due("6 ROOT", x.ofObject(0, 1), 1);
        due("6 no ROOT", x.ofObject(1, 1), 0);
        due("6 not GONE", x.ofObject(1, 2), 1);
        due("6 OUT", x.ofObject(4, 3), 128);
        due("6 OUT of 0", x.ofObject(0, 3), 64);
        due("6 LINKS from", x.ofObject(0, 5), 0b10010);
        due("6 LINKS from 2", x.ofObject(2, 5), 0b11000);
        due("6 LINKS to", x.ofObject(4, 6), 0b00101);
        due("6 LINKS to 0", x.ofObject(0, 6), 0b01000);
        x.collect(3);
        x.root(0, false);
        x.collect(3);
        due("6 AGE", x.ofObject(0, 4), 1);
        x.kill(0);
        due("6 GONE", x.ofObject(2, 2), 0);
        due("6 HOST of a GONE one", x.ofObject(1, 0), 3);
        due("6 GONE has no LINKS", x.ofObject(2, 5), 0);
        due("6 none lead to GONE", x.ofObject(3, 6), 0);
        due("6 none from GONE", x.ofObject(4, 6), 1);
        due("6 OBJECT 5", x.ofObject(5, 0), UNKNOWN);
        due("6 OBJECT -1", x.ofObject(-1, 0), UNKNOWN);
        due("6 what -1", x.ofObject(0, -1), OUTSIDE);
        due("6 what 7", x.ofObject(0, 7), OUTSIDE);
        due("6 UNKNOWN goes ahead", x.ofObject(5, 7), UNKNOWN);
    }

    private static void promise7Weight() {
        LostHosts x = with("001R");
        x.link(0, 1);
        x.link(0, 2);
        due("7 NEAR", x.weight(0, 1), 0);
        due("7 FAR", x.weight(0, 2), 64);
        due("7 the other way", x.weight(2, 0), NONE);
        due("7 to itself", x.weight(1, 1), NONE);
        x.kill(1);
        due("7 to a GONE one", x.weight(0, 2), NONE);
        due("7 a 3", x.weight(3, 0), UNKNOWN);
        due("7 b 3", x.weight(0, 3), UNKNOWN);
        due("7 a -1", x.weight(-1, 0), UNKNOWN);
        due("7 b -1", x.weight(0, -1), UNKNOWN);
        due("7 b 10", x.weight(0, 10), UNKNOWN);
    }

    private static void promise8Give() {
        LostHosts x = with("00001R2R");
        x.link(0, 1);
        x.link(0, 2);
        due("8 near, no LETTER", x.give(0, 1, 2), 0);
        due("8 a NEAR LINK", x.weight(1, 2), 0);
        due("8 x may be b", x.give(0, 1, 0), 0);
        due("8 a NEAR LINK to x", x.weight(1, 0), 0);
        due("8 once more", x.give(0, 1, 2), 0);
        x.link(0, 4);
        due("8 split", x.give(0, 1, 4), 0);
        due("8 half stays", x.weight(0, 4), 32);
        due("8 half comes", x.weight(1, 4), 32);
        due("8 split again", x.give(0, 1, 4), 0);
        due("8 so much more", x.weight(1, 4), 48);
        due("8 less", x.weight(0, 4), 16);
        due("8 OUT as it was", x.ofObject(4, 3), 64);
        due("8 no LETTERS", x.many(1), 0);
        due("8 a GRANT of one on the HOST of x", x.give(0, 4, 1), 1);
        due("8 with 64", x.letter(0, 2), 64);
        due("8 OUT is more", x.ofObject(1, 3), 64);
        x.link(0, 5);
        due("8 a GRANT of one elsewhere", x.give(0, 4, 5), 1);
        due("8 it is a GRANT", x.letter(1, 0), 0);
        due("8 with what was split off", x.letter(1, 2), 32);
        due("8 left", x.weight(0, 5), 32);
        due("8 OUT of it as it was", x.ofObject(5, 3), 64);
        due("8 a GRANT of x", x.give(0, 4, 0), 1);
        due("8 a LETTER of x", x.letter(2, 3), 0);
        due("8 OUT of x", x.ofObject(0, 3), 64);
        promise8Refusals();
        promise8Filled();
    }

    private static void promise8Refusals() {
        LostHosts x = with("0001R2R2");
        x.link(0, 1);
        x.link(0, 3);
        x.link(2, 3);
        x.link(4, 5);
        due("8 a is x", x.give(0, 0, 1), STATE);
        due("8 a is b", x.give(0, 1, 1), STATE);
        due("8 all one", x.give(0, 0, 0), STATE);
        due("8 no LINK to a", x.give(0, 2, 1), STATE);
        due("8 no LINK to b", x.give(0, 1, 2), STATE);
        due("8 no LINK to a, x is b", x.give(0, 2, 0), STATE);
        due("8 no LETTER was sent", x.many(1), 0);
        due("8 x 6", x.give(6, 0, 1), UNKNOWN);
        due("8 a 6", x.give(0, 6, 1), UNKNOWN);
        due("8 b 6", x.give(0, 1, 6), UNKNOWN);
        due("8 x -1", x.give(-1, 0, 1), UNKNOWN);
        due("8 a -1", x.give(0, -1, 1), UNKNOWN);
        due("8 b -1", x.give(0, 1, -1), UNKNOWN);
        x.kill(2);
        due("8 x GONE", x.give(4, 5, 4), STATE);
        due("8 a GONE", x.give(0, 4, 1), STATE);
        due("8 b GONE", x.give(0, 1, 4), STATE);
        LostHosts y = withGrants(60);
        y.object(0, false);
        y.link(0, 2);
        due("8 60 LETTERS", y.many(1), 60);
        due("8 FULL", y.give(0, 1, 0), FULL);
        due("8 FULL, another b", y.give(0, 1, 2), FULL);
        due("8 FULL changes nothing", y.ofObject(2, 3), 0);
        due("8 STATE goes ahead of FULL", y.give(0, 1, 1), STATE);
        due("8 UNKNOWN goes ahead of FULL", y.give(0, 1, 3), UNKNOWN);
        due("8 no LETTER is needed", y.give(0, 2, 1), 0);
        due("8 it came", y.weight(2, 1), 32);
        y.deliver(59);
        due("8 room again", y.give(0, 1, 0), 1);
    }

    private static void promise8Filled() {
        LostHosts x = with("001R");
        x.link(0, 1);
        x.link(0, 2);
        for (int i = 0; i < 6; i++) {
            due("8 split", x.give(0, 1, 2), 0);
        }
        due("8 a WEIGHT of 1", x.weight(0, 2), 1);
        due("8 not FILLED yet", x.many(6), 0);
        due("8 FILLED first", x.give(0, 1, 2), 0);
        due("8 the half that stays", x.weight(0, 2), 33);
        due("8 the half, cut", x.weight(1, 2), 95);
        due("8 OUT is 64 more", x.ofObject(2, 3), 128);
        due("8 FILLED once", x.many(6), 1);
        due("8 an odd WEIGHT", x.give(0, 1, 2), 0);
        due("8 its half is cut", x.weight(0, 2), 17);
        due("8 balanced", x.many(7), 1);
    }

    private static void promise8Age() {
        LostHosts x = with("0R001R");
        x.link(0, 1);
        x.link(0, 2);
        x.link(0, 3);
        x.link(3, 0);
        x.give(0, 3, 2);
        x.deliver(0);
        x.unlink(0, 2);
        x.root(3, false);
        x.collect(0);
        x.collect(1);
        due("8 AGE of 2", x.ofObject(2, 4), 1);
        due("8 AGE of 3", x.ofObject(3, 4), 1);
        due("8 a LINK to 3 comes at once", x.give(0, 1, 3), 0);
        due("8 AGE as it comes", x.ofObject(3, 4), 0);
        x.collect(1);
        due("8 more WEIGHT", x.give(0, 1, 3), 0);
        due("8 no LINK came", x.ofObject(3, 4), 1);
        x.link(0, 2);
        x.unlink(0, 2);
        x.link(1, 2);
        due("8 a NEAR LINK came", x.ofObject(2, 4), 0);
    }

    private static void promise9Deliver() {
        LostHosts x = with("0R1R02R");
        x.link(0, 1);
        x.link(0, 2);
        x.link(0, 3);
        x.give(0, 1, 2);
        x.give(0, 1, 3);
        x.give(0, 3, 1);
        x.unlink(0, 2);
        x.collect(0);
        due("9 AGE", x.ofObject(2, 4), 1);
        due("9 the middle one first", x.deliver(1), 0);
        due("9 a LINK came", x.weight(1, 3), 32);
        due("9 the next ones move up", x.letter(1, 3), 1);
        due("9 the first one stays", x.letter(0, 3), 2);
        due("9 one less", x.many(1), 2);
        due("9 no LETTER 2", x.deliver(2), UNKNOWN);
        due("9 no LETTER -1", x.deliver(-1), UNKNOWN);
        due("9 no LETTER 60", x.deliver(60), UNKNOWN);
        due("9 the first", x.deliver(0), 0);
        due("9 WEIGHT", x.weight(1, 2), 64);
        due("9 AGE as the LINK comes", x.ofObject(2, 4), 0);
        due("9 OUT stays", x.ofObject(2, 3), 64);
        due("9 the last", x.deliver(0), 0);
        due("9 WEIGHT of the last", x.weight(3, 1), 32);
        due("9 no LETTERS", x.deliver(0), UNKNOWN);
        x.unlink(1, 2);
        due("9 a RETURN", x.deliver(0), 1);
        due("9 OUT is less", x.ofObject(2, 3), 0);
        due("9 balanced", x.many(7), 1);
    }

    private static void promise9MoreWeight() {
        LostHosts x = with("0R1R0");
        x.link(0, 1);
        x.link(0, 2);
        x.give(0, 1, 2);
        x.give(0, 1, 2);
        x.deliver(1);
        x.unlink(0, 2);
        x.collect(0);
        due("9 AGE", x.ofObject(2, 4), 1);
        due("9 a second GRANT", x.deliver(0), 0);
        due("9 so much more", x.weight(1, 2), 128);
        due("9 no LINK came", x.ofObject(2, 4), 1);
    }

    private static void promise9ToHostOfB() {
        LostHosts x = with("0R11R");
        x.link(0, 2);
        x.link(2, 1);
        x.root(1, true);
        x.link(0, 1);
        x.root(1, false);
        x.root(2, false);
        x.unlink(2, 1);
        x.collect(1);
        due("9 a GRANT home", x.give(0, 2, 1), 1);
        due("9 it is split", x.letter(0, 2), 32);
        due("9 AGE", x.ofObject(1, 4), 1);
        due("9 it arrives", x.deliver(0), 0);
        due("9 NEAR", x.weight(2, 1), 0);
        due("9 OUT is less", x.ofObject(1, 3), 32);
        due("9 AGE as a NEAR LINK comes", x.ofObject(1, 4), 0);
        x.collect(1);
        x.give(0, 2, 1);
        x.deliver(0);
        due("9 NEAR as it was", x.weight(2, 1), 0);
        due("9 OUT is less again", x.ofObject(1, 3), 16);
        due("9 no LINK came", x.ofObject(1, 4), 1);
    }

    /** GRANTS to one that is GONE: of one on its HOST, of one elsewhere; GRANTS of one that is GONE. */
    private static void promise9Gone() {
        LostHosts x = with("0R11R2R0");
        x.link(0, 2);
        x.link(0, 3);
        x.link(0, 4);
        x.link(2, 1);
        x.root(1, true);
        x.link(0, 1);
        x.root(1, false);
        due("9 a GRANT of one on the HOST of a", x.give(0, 2, 1), 1);
        due("9 a GRANT of one elsewhere", x.give(0, 2, 3), 1);
        due("9 a GRANT of one with x", x.give(0, 2, 4), 1);
        x.root(2, false);
        x.unlink(0, 2);
        x.deliver(3);
        due("9 a is GONE", x.collect(1), 1);
        due("9 it was 2", x.ofObject(2, 2), 0);
        due("9 no RETURN: its LINK was NEAR", x.many(1), 3);
        due("9 OUT of 1", x.ofObject(1, 3), 64);
        due("9 arrives", x.deliver(0), 0);
        due("9 OUT of 1 is less", x.ofObject(1, 3), 32);
        due("9 no RETURN is sent", x.many(1), 2);
        due("9 arrives too", x.deliver(0), 0);
        due("9 OUT of 3 as yet", x.ofObject(3, 3), 64);
        due("9 a RETURN is sent, last of all", x.letter(1, 0), 1);
        due("9 to the HOST of 3", x.letter(1, 1), 2);
        due("9 of all of it", x.letter(1, 2), 32);
        due("9 of 3", x.letter(1, 3), 3);
        due("9 the third", x.deliver(0), 0);
        due("9 its RETURN goes to x's HOST", x.letter(1, 1), 0);
        due("9 of 64", x.letter(1, 2), 64);
        due("9 balanced", x.many(7), 1);
        due("9 the RETURN", x.deliver(0), 1);
        due("9 OUT of 3 is less", x.ofObject(3, 3), 32);
    }

    private static void promise9Dead() {
        LostHosts x = with("0R1R02R");
        x.link(0, 1);
        x.link(0, 2);
        x.link(0, 3);
        x.give(0, 1, 2);
        x.give(0, 1, 3);
        x.give(0, 3, 2);
        x.kill(1);
        due("9 to a DEAD HOST", x.deliver(0), 0);
        due("9 nothing comes of it", x.many(1), 2);
        due("9 OUT stays", x.ofObject(2, 3), 128);
        x.kill(2);
        due("9 b is GONE too", x.deliver(0), 0);
        due("9 nothing", x.ofObject(3, 3), 64);
        LostHosts y = with("0R1R2R");
        y.link(0, 1);
        y.link(0, 2);
        y.give(0, 1, 2);
        y.unlink(0, 2);
        y.kill(2);
        due("9 a RETURN of a GONE one", y.deliver(1), 1);
        due("9 OUT of a GONE one stays", y.ofObject(2, 3), 64);
        due("9 a GRANT of a GONE one", y.deliver(0), 0);
        due("9 no LINK comes", y.weight(1, 2), NONE);
        due("9 no LETTER", y.many(1), 0);
    }

    private static void promise10Letter() {
        LostHosts x = with("0R3R02R");
        x.link(0, 1);
        x.link(0, 2);
        x.link(0, 3);
        x.give(0, 1, 2);
        x.give(0, 1, 3);
        x.unlink(0, 3);
        due("10 GRANT", x.letter(0, 0), 0);
        due("10 to the HOST of a", x.letter(0, 1), 3);
        due("10 WEIGHT", x.letter(0, 2), 64);
        due("10 b", x.letter(0, 3), 2);
        due("10 a", x.letter(0, 4), 1);
        due("10 WEIGHT of the second", x.letter(1, 2), 32);
        due("10 b of the second", x.letter(1, 3), 3);
        due("10 RETURN", x.letter(2, 0), 1);
        due("10 to the HOST of b", x.letter(2, 1), 2);
        due("10 WEIGHT of the RETURN", x.letter(2, 2), 32);
        due("10 b of the RETURN", x.letter(2, 3), 3);
        due("10 no a", x.letter(2, 4), NONE);
        due("10 LETTER 3", x.letter(3, 0), UNKNOWN);
        due("10 LETTER -1", x.letter(-1, 0), UNKNOWN);
        due("10 what -1", x.letter(0, -1), OUTSIDE);
        due("10 what 5", x.letter(0, 5), OUTSIDE);
        due("10 UNKNOWN goes ahead", x.letter(3, 5), UNKNOWN);
        x.kill(3);
        due("10 to a DEAD HOST", x.letter(0, 1), 3);
        due("10 far beyond", x.letter(Integer.MAX_VALUE, 0), UNKNOWN);
    }

    private static void promise11Collect() {
        LostHosts x = with("0R0000001R2R");
        x.link(0, 1);
        x.link(1, 2);
        x.link(3, 4);
        x.link(4, 3);
        x.link(5, 1);
        x.link(5, 8);
        x.link(5, 7);
        x.link(3, 8);
        x.link(4, 7);
        x.link(6, 2);
        due("11 a ring and two more", x.collect(0), 4);
        due("11 left", x.stays(0), 0b111);
        due("11 GONE", x.ofObject(3, 2), 0);
        due("11 no LINK from GONE", x.ofObject(1, 6), 1);
        due("11 RETURNS", x.many(1), 4);
        int[] about = {8, 7, 7, 8};
        for (int k = 0; k < 4; k++) {
            due("11 by OBJECTS, then by where they lead", x.letter(k, 3), about[k]);
            due("11 a RETURN", x.letter(k, 0), 1);
            due("11 of 64", x.letter(k, 2), 64);
        }
        due("11 AGE by a ROOT", x.ofObject(2, 4), 0);
        due("11 nothing more", x.collect(0), 0);
        due("11 HOST -1", x.collect(-1), UNKNOWN);
        due("11 HOST 4", x.collect(4), UNKNOWN);
        x.kill(3);
        due("11 DEAD", x.collect(3), STATE);
        due("11 other HOSTS are as they were", x.ofObject(7, 2), 1);
        promise11Age();
        promise11BeyondSixty();
    }

    private static void promise11Age() {
        LostHosts x = with("0R1R11");
        x.link(0, 1);
        x.link(1, 2);
        x.link(2, 3);
        x.root(1, false);
        for (int i = 1; i <= 12; i++) {
            due("11 held by OUT", x.collect(1), 0);
            due("11 AGE of 1", x.ofObject(1, 4), Math.min(i, 9));
            due("11 AGE of 3, behind it", x.ofObject(3, 4), Math.min(i, 9));
        }
        due("11 AGE on another HOST", x.ofObject(0, 4), 0);
        x.root(2, true);
        due("11 AGE waits for the COLLECTING", x.ofObject(2, 4), 9);
        x.collect(1);
        due("11 AGE of a ROOT", x.ofObject(2, 4), 0);
        due("11 AGE of one behind a ROOT", x.ofObject(3, 4), 0);
        due("11 AGE of one ahead of a ROOT", x.ofObject(1, 4), 9);
    }

    private static void promise11BeyondSixty() {
        LostHosts x = withGrants(58);
        x.object(0, false);
        x.object(2, true);
        x.object(3, true);
        x.link(2, 1);
        x.link(2, 3);
        x.link(2, 4);
        due("11 one is GONE", x.collect(0), 1);
        due("11 RETURNS go beyond 60", x.many(1), 61);
        due("11 the 61st", x.letter(60, 3), 4);
        due("11 the 61st is a RETURN", x.letter(60, 4), NONE);
        due("11 FULL beyond 60", x.unlink(0, 1), FULL);
        due("11 FULL beyond 60", x.give(0, 1, 0), FULL);
        due("11 it arrives", x.deliver(60), 1);
        due("11 OUT of 4", x.ofObject(4, 3), 0);
        due("11 still FULL", x.unlink(0, 1), FULL);
        x.settle();
        due("11 all arrive", x.many(1), 0);
        due("11 WEIGHT of all", x.weight(1, 0), 58 * 64);
    }

    private static void promise12Stays() {
        LostHosts x = with("0R00001R10");
        x.link(0, 1);
        x.link(2, 3);
        x.link(3, 2);
        x.link(5, 6);
        x.link(4, 5);
        due("12 ROOTS and all behind", x.stays(0), 0b11);
        due("12 on HOST 1", x.stays(1), 0b1100000);
        x.root(5, false);
        due("12 by OUT", x.stays(1), 0b1100000);
        x.root(3, true);
        x.link(5, 3);
        x.root(3, false);
        due("12 a ring held by OUT", x.stays(0), 0b1111);
        due("12 it changes nothing", x.many(0), 8);
        due("12 nor AGES", x.ofObject(2, 4), 0);
        due("12 HOST -1", x.stays(-1), UNKNOWN);
        due("12 HOST 4", x.stays(4), UNKNOWN);
        x.kill(1);
        due("12 DEAD", x.stays(1), 0);
        due("12 no HOST's OBJECTS", x.stays(2), 0);
    }

    private static void promise13Old() {
        LostHosts x = with("0R1R11R2");
        x.link(0, 1);
        x.root(1, false);
        x.link(1, 2);
        x.collect(1);
        x.collect(1);
        due("13 all", x.old(1, 0), 0b1110);
        due("13 of AGE 1", x.old(1, 1), 0b110);
        due("13 of AGE 2", x.old(1, 2), 0b110);
        due("13 of AGE 3", x.old(1, 3), 0);
        x.unlink(1, 2);
        x.link(1, 2);
        due("13 a LINK came", x.old(1, 1), 0b10);
        for (int i = 0; i < 10; i++) {
            x.collect(1);
        }
        due("13 of AGE 9", x.old(1, 9), 0b110);
        due("13 of no AGE", x.old(0, 0), 1);
        due("13 not collected yet", x.old(2, 0), 0b10000);
        x.collect(2);
        due("13 not the GONE ones", x.old(2, 0), 0);
        due("13 v -1", x.old(1, -1), OUTSIDE);
        due("13 v 10", x.old(1, 10), OUTSIDE);
        due("13 HOST -1", x.old(-1, 0), UNKNOWN);
        due("13 HOST 4", x.old(4, 0), UNKNOWN);
        due("13 UNKNOWN goes ahead", x.old(4, 10), UNKNOWN);
        x.kill(1);
        due("13 DEAD", x.old(1, 0), 0);
    }

    /** A ring 0, 1, 2 over three HOSTS, with a LINK from 0 to 3, a ROOT elsewhere, and no ROOTS else. */
    private static LostHosts ring() {
        LostHosts x = with("0R1R2R3R");
        x.link(0, 1);
        x.link(1, 2);
        x.link(2, 0);
        x.link(0, 3);
        for (int a = 0; a < 3; a++) {
            x.root(a, false);
        }
        return x;
    }

    private static void promise14Trace() {
        LostHosts x = ring();
        due("14 nothing is collected", x.settle(), 0);
        due("14 a ROOT", x.trace(3), 0);
        due("14 the ring", x.trace(1), 3);
        due("14 GONE", x.ofObject(0, 2), 0);
        due("14 the ROOT is there", x.ofObject(3, 2), 1);
        due("14 a RETURN for what is outside", x.many(1), 1);
        due("14 of 3", x.letter(0, 3), 3);
        due("14 GONE is STATE", x.trace(1), STATE);
        due("14 OBJECT 4", x.trace(4), UNKNOWN);
        due("14 OBJECT -1", x.trace(-1), UNKNOWN);
        due("14 OUT of a GONE one stays", x.ofObject(1, 3), 64);
        LostHosts y = ring();
        y.root(2, true);
        due("14 HELD by a ROOT", y.trace(0), 0);
        due("14 nothing is GONE", y.many(0), 4);
        LostHosts z = with("0R1R1");
        z.link(0, 1);
        z.link(1, 2);
        z.link(1, 0);
        z.give(1, 0, 2);
        z.root(0, false);
        z.root(1, false);
        due("14 HELD by a GRANT", z.trace(2), 0);
        due("14 not HELD, for the GRANT is of another", z.trace(0), 2);
        due("14 still there", z.ofObject(2, 2), 1);
        due("14 HELD by a GRANT to a GONE one", z.trace(2), 0);
        z.deliver(0);
        due("14 a RETURN does not hold", z.trace(2), 1);
    }

    private static void promise15Back() {
        LostHosts x = ring();
        due("15 the ring", x.back(1, 0), 0b111);
        due("15 not HELD", x.back(1, 1), 0);
        due("15 behind it", x.back(3, 0), 0b1111);
        due("15 by a ROOT, itself", x.back(3, 1), 1);
        due("15 it changes nothing", x.many(0), 4);
        x.give(0, 1, 0);
        due("15 by a GRANT", x.back(2, 1), 2);
        x.root(2, true);
        due("15 by a ROOT goes ahead", x.back(1, 1), 1);
        x.root(2, false);
        due("15 by a GRANT again", x.back(1, 1), 2);
        x.deliver(0);
        due("15 no GRANT any more", x.back(1, 1), 0);
        x.unlink(2, 0);
        due("15 a RETURN does not hold", x.back(2, 1), 0);
        due("15 no ring any more", x.back(1, 0), 0b11);
        due("15 what -1", x.back(1, -1), OUTSIDE);
        due("15 what 2", x.back(1, 2), OUTSIDE);
        due("15 OBJECT 4", x.back(4, 0), UNKNOWN);
        due("15 OBJECT -1", x.back(-1, 0), UNKNOWN);
        due("15 UNKNOWN goes ahead", x.back(4, 2), UNKNOWN);
        x.kill(2);
        due("15 GONE", x.back(2, 0), STATE);
        due("15 GONE, 1", x.back(2, 1), STATE);
        due("15 OUTSIDE goes ahead", x.back(2, 2), OUTSIDE);
        x.give(0, 1, 0);
        x.kill(1);
        due("15 a GRANT to a DEAD HOST is under way", x.back(0, 1), 2);
    }

    private static void promise16Kill() {
        LostHosts x = with("0R1R1R12R");
        x.link(0, 1);
        x.link(1, 0);
        x.link(1, 4);
        x.link(2, 3);
        due("16 three", x.kill(1), 3);
        due("16 no RETURNS", x.many(1), 0);
        due("16 OUT stays", x.ofObject(4, 3), 64);
        due("16 LINKS to them", x.weight(0, 1), NONE);
        due("16 LINKS of them", x.ofObject(4, 6), 0);
        due("16 UP", x.many(4), 3);
        due("16 DEAD", x.kill(1), STATE);
        due("16 nothing comes there", x.object(1, false), STATE);
        due("16 an empty HOST", x.kill(3), 0);
        due("16 it is DEAD, too", x.kill(3), STATE);
        due("16 HOST -1", x.kill(-1), UNKNOWN);
        due("16 HOST 4", x.kill(4), UNKNOWN);
        x.object(2, false);
        x.collect(2);
        due("16 the GONE ones do not count", x.kill(2), 1);
        due("16 all the HOSTS", x.kill(0), 1);
        due("16 none UP", x.many(4), 0);
        due("16 nothing to SETTLE", x.settle(), 0);
    }

    private static void promise17Recover() {
        LostHosts x = with("0R1R2R0");
        x.link(0, 1);
        x.link(0, 2);
        x.link(1, 2);
        x.link(1, 0);
        x.link(2, 0);
        x.link(0, 3);
        x.give(0, 2, 3);
        due("17 nothing to do", x.recover(), 0);
        due("17 OUT as it was", x.ofObject(0, 3), 128);
        x.give(0, 1, 2);
        x.give(0, 1, 3);
        x.unlink(2, 0);
        due("17 LETTERS count", x.recover(), 0);
        x.kill(1);
        due("17 not balanced", x.many(7), 0);
        due("17 64 of 0, 64 and 32 of 2, 64 of 3", x.recover(), 224);
        due("17 OUT of 0: a RETURN", x.ofObject(0, 3), 64);
        due("17 OUT of 2: a LINK", x.ofObject(2, 3), 32);
        due("17 OUT of 3: a GRANT to a HOST that is UP", x.ofObject(3, 3), 64);
        due("17 OUT of a GONE one stays", x.ofObject(1, 3), 64);
        due("17 once", x.recover(), 0);
        due("17 LETTERS to DEAD HOSTS are there yet", x.many(1), 4);
        due("17 with them it is not balanced", x.many(7), 0);
        x.settle();
        due("17 OUT of 0", x.ofObject(0, 3), 0);
        due("17 balanced", x.many(7), 1);
        due("17 a new object", new LostHosts().recover(), 0);
    }

    private static void promise18Settle() {
        LostHosts x = with("0R1R2R3R");
        x.link(0, 1);
        x.link(1, 2);
        x.link(2, 3);
        for (int a = 1; a < 4; a++) {
            x.root(a, false);
        }
        due("18 a chain that is held", x.settle(), 0);
        due("18 one round", x.ofObject(1, 4), 1);
        x.unlink(0, 1);
        due("18 a chain over HOSTS", x.settle(), 3);
        due("18 no LETTERS", x.many(1), 0);
        due("18 one is left", x.many(0), 1);
        due("18 a new object", new LostHosts().settle(), 0);
        LostHosts y = with("0R1R2R3");
        y.link(0, 1);
        y.link(0, 2);
        y.link(1, 2);
        y.link(1, 0);
        y.give(0, 1, 2);
        y.root(1, false);
        y.unlink(0, 1);
        y.collect(1);
        due("18 a RETURN for a GONE one is under way", y.settle(), 2);
        due("18 the GRANT came back", y.ofObject(2, 3), 32);
        due("18 all LETTERS arrived", y.many(1), 0);
        due("18 AGE of OBJECT 2", y.ofObject(2, 4), 0);
        LostHosts z = with("0R1R1R3");
        z.link(0, 1);
        z.link(0, 2);
        z.root(1, false);
        due("18 a round that makes one GONE, then one that does not", z.settle(), 1);
        due("18 two rounds", z.ofObject(1, 4), 2);
        z.kill(0);
        due("18 a DEAD HOST does not COLLECT", z.settle(), 0);
        due("18 OUT of 1 is not told back", z.ofObject(1, 2), 1);
    }

    private static void promise19Reached() {
        LostHosts x = with("0R001R2R3R0");
        x.link(0, 1);
        x.link(1, 2);
        x.link(0, 3);
        due("19 ROOTS and all behind", x.reached(), 0b0111111);
        for (int a = 3; a < 6; a++) {
            x.root(a, false);
        }
        due("19 FAR LINKS, too", x.reached(), 0b0001111);
        x.root(4, true);
        x.link(3, 4);
        x.root(4, false);
        due("19 one behind another", x.reached(), 0b0011111);
        x.link(0, 6);
        x.give(0, 3, 6);
        x.unlink(0, 6);
        due("19 a GRANT to one that is REACHED", x.reached(), 0b1011111);
        x.unlink(0, 3);
        due("19 a GRANT to one that is not", x.reached(), 0b0000111);
        x.root(0, false);
        due("19 no ROOTS", x.reached(), 0);
        x.root(3, true);
        due("19 by a GRANT again", x.reached(), 0b1011000);
        due("19 a RETURN reaches nothing", x.letter(1, 0), 1);
        x.settle();
        due("19 a LINK came of the GRANT", x.reached(), 0b1011000);
        x.kill(1);
        due("19 a GONE ROOT", x.reached(), 0);
        LostHosts y = with("0R1R0");
        y.link(0, 1);
        y.link(0, 2);
        y.give(0, 1, 2);
        y.deliver(0);
        y.kill(0);
        due("19 a GRANT that has arrived is under way no more", y.reached(), 0b010);
        promise19Gone();
    }

    /** A GRANT of 1 to the ROOT 0, and a GRANT of 2 to 1, under way as 1 becomes GONE; one to a GONE ROOT. */
    private static void promise19Gone() {
        LostHosts x = with("0R1R2");
        x.link(1, 0);
        x.link(2, 1);
        x.give(1, 0, 1);
        x.give(2, 1, 2);
        x.root(1, false);
        due("19 by a GRANT, and by one behind it", x.reached(), 0b111);
        due("20 by two GRANTS", x.far(2), 2);
        due("21 nothing lost", x.many(5), 0);
        x.kill(1);
        due("19 GRANTS are under way yet", x.many(1), 2);
        due("19 neither a GONE one nor what is behind it", x.reached(), 0b001);
        due("20 not by way of a GONE one", x.far(2), NONE);
        due("20 a GONE one", x.far(1), STATE);
        due("21 lost behind a GONE one", x.many(5), 1);
        LostHosts y = with("0R1R");
        y.link(1, 0);
        y.give(1, 0, 1);
        y.root(1, false);
        due("19 a GRANT to a ROOT", y.reached(), 0b11);
        y.kill(0);
        due("19 a GRANT to a GONE ROOT", y.reached(), 0);
        due("20 a GRANT to a GONE ROOT", y.far(1), NONE);
        due("21 a GRANT to a GONE ROOT", y.many(5), 1);
    }

    private static void promise20Far() {
        LostHosts x = with("0R0001R2R0");
        x.link(0, 1);
        x.link(1, 2);
        x.link(2, 3);
        x.link(1, 4);
        x.root(4, false);
        due("20 a ROOT", x.far(0), 0);
        due("20 one", x.far(1), 1);
        due("20 three", x.far(3), 3);
        due("20 FAR, two", x.far(4), 2);
        due("20 another ROOT", x.far(5), 0);
        due("20 not REACHED", x.far(6), NONE);
        x.give(1, 4, 1);
        x.link(1, 6);
        x.give(1, 4, 6);
        due("20 the shorter way", x.far(6), 2);
        x.unlink(1, 6);
        due("20 a GRANT counts as one", x.far(6), 3);
        x.link(0, 3);
        due("20 a shorter way came", x.far(3), 1);
        x.root(2, true);
        due("20 from some ROOT", x.far(2), 0);
        x.link(2, 3);
        x.unlink(0, 3);
        due("20 from the nearest", x.far(3), 1);
        x.kill(2);
        due("20 GONE", x.far(5), STATE);
        due("20 OBJECT 7", x.far(7), UNKNOWN);
        due("20 OBJECT -1", x.far(-1), UNKNOWN);
        LostHosts y = with("0R000000000");
        for (int a = 0; a < 9; a++) {
            y.link(a, a + 1);
        }
        due("20 the longest way", y.far(9), 9);
        y.root(0, false);
        due("20 no ROOT", y.far(9), NONE);
        due("20 no ROOT, the first", y.far(0), NONE);
    }

    private static void promise21Many() {
        LostHosts x = with("0R01R1210");
        x.link(0, 1);
        x.link(0, 2);
        x.link(1, 2);
        x.link(2, 3);
        x.link(3, 2);
        x.link(0, 6);
        x.give(0, 2, 1);
        due("21 OBJECTS", x.many(0), 7);
        due("21 LETTERS", x.many(1), 1);
        due("21 NEAR", x.many(2), 4);
        due("21 FAR", x.many(3), 2);
        due("21 UP", x.many(4), 4);
        due("21 lost", x.many(5), 2);
        due("21 FILLED", x.many(6), 0);
        due("21 balanced", x.many(7), 1);
        x.collect(2);
        due("21 OBJECTS that are left", x.many(0), 6);
        due("21 lost and not GONE", x.many(5), 1);
        x.deliver(0);
        due("21 balanced with a LINK", x.many(7), 1);
        due("21 three FAR ones", x.many(3), 3);
        x.kill(1);
        due("21 not balanced", x.many(7), 0);
        due("21 three UP", x.many(4), 3);
        due("21 no FAR ones", x.many(3), 0);
        due("21 two NEAR ones", x.many(2), 2);
        due("21 what -1", x.many(-1), OUTSIDE);
        due("21 what 8", x.many(8), OUTSIDE);
        x.recover();
        due("21 balanced again", x.many(7), 1);
        LostHosts y = with("001R");
        y.link(0, 1);
        y.link(0, 2);
        for (int i = 0; i < 14; i++) {
            y.give(0, 1, 2);
        }
        due("21 FILLED twice", y.many(6), 2);
    }

    /** Chains of all 10 OBJECTS: upwards over two HOSTS in turn, and downwards on one HOST. */
    private static void longestChains() {
        LostHosts x = with("0R1R0R1R0R1R0R1R0R1R");
        for (int a = 0; a < 9; a++) {
            x.link(a, a + 1);
            x.root(a + 1, false);
        }
        due("15 BACK of the last", x.back(9, 0), 1023);
        due("19 REACHED from the first", x.reached(), 1023);
        due("20 how far", x.far(9), 9);
        x.root(0, false);
        due("18 one after the other", x.settle(), 10);
        due("18 all LETTERS arrived", x.many(1), 0);
        LostHosts y = with("0000000000R");
        for (int a = 9; a > 0; a--) {
            y.link(a, a - 1);
        }
        due("12 all behind the last", y.stays(0), 1023);
        due("11 all stay", y.collect(0), 0);
        due("13 all are young", y.old(0, 1), 0);
        due("15 BACK of the first", y.back(0, 0), 1023);
        due("19 REACHED from the last", y.reached(), 1023);
        y.root(9, false);
        due("14 all", y.trace(0), 10);
    }

    public static void main(String[] args) {
        promise1New();
        promise2Object();
        promise3Root();
        promise4Link();
        promise5Unlink();
        promise6OfObject();
        promise7Weight();
        promise8Give();
        promise8Age();
        promise9Deliver();
        promise9MoreWeight();
        promise9ToHostOfB();
        promise9Gone();
        promise9Dead();
        promise10Letter();
        promise11Collect();
        promise12Stays();
        promise13Old();
        promise14Trace();
        promise15Back();
        promise16Kill();
        promise17Recover();
        promise18Settle();
        promise19Reached();
        promise20Far();
        promise21Many();
        longestChains();
        System.out.println("PromiseTests: " + asked + " answers, " + wrong + " not as due");
        if (wrong != 0) {
            System.exit(1);
        }
    }
}

import java.lang.reflect.Constructor;
import java.lang.reflect.Field;
import java.lang.reflect.Member;
import java.lang.reflect.Method;
import java.lang.reflect.Modifier;
import java.util.Arrays;
import java.util.Set;
import java.util.TreeSet;

/** Boundary cases of promises 1 to 7: objects, links. Each test names its promise and the sentence it tests. */
final class EdgesOfObjects {
    private static final int UNKNOWN = Edge.UNKNOWN, OUTSIDE = Edge.OUTSIDE, STATE = Edge.STATE;
    private static final int FULL = Edge.FULL, NONE = Edge.NONE;

    private EdgesOfObjects() { }

    static void run() {
        promise1();
        promise2();
        promise3();
        promise4();
        promise5();
        promise6();
        promise7();
    }

    private static void promise1() {
        Edge.test(1, "All HOSTS are UP", EdgesOfObjects::allUp);
        Edge.test(1, "no OBJECTS", EdgesOfObjects::noObjects);
        Edge.test(1, "no OBJECTS", EdgesOfObjects::allIsEmpty);
        Edge.test(1, "LETTERS, in the order in which they were sent, the first is 0", EdgesOfObjects::noLetters);
        Edge.test(1, "public static final int UNKNOWN = -1, OUTSIDE = -2, STATE = -3, FULL = -4, NONE = -9;",
            EdgesOfObjects::constants);
        Edge.test(1, "public final class LostHosts {", EdgesOfObjects::face);
    }

    private static void allUp() {
        Edge.due("many(4)", new LostHosts().many(4), 4);
        for (int h = 0; h < 4; h++) {
            Edge.due("collect(" + h + ")", new LostHosts().collect(h), 0);
            Edge.due("object(" + h + ", false)", new LostHosts().object(h, false), 0);
            Edge.due("kill(" + h + ")", new LostHosts().kill(h), 0);
        }
    }

    private static void noObjects() {
        LostHosts x = new LostHosts();
        Edge.due("root(0, true)", x.root(0, true), UNKNOWN);
        Edge.due("link(0, 0)", x.link(0, 0), UNKNOWN);
        Edge.due("unlink(0, 0)", x.unlink(0, 0), UNKNOWN);
        Edge.due("ofObject(0, 0)", x.ofObject(0, 0), UNKNOWN);
        Edge.due("weight(0, 0)", x.weight(0, 0), UNKNOWN);
        Edge.due("give(0, 0, 0)", x.give(0, 0, 0), UNKNOWN);
        Edge.due("trace(0)", x.trace(0), UNKNOWN);
        Edge.due("back(0, 0)", x.back(0, 0), UNKNOWN);
        Edge.due("far(0)", x.far(0), UNKNOWN);
    }

    private static void allIsEmpty() {
        LostHosts x = new LostHosts();
        for (int h = 0; h < 4; h++) {
            Edge.due("stays(" + h + ")", x.stays(h), 0);
            Edge.due("old(" + h + ", 0)", x.old(h, 0), 0);
        }
        Edge.due("reached()", x.reached(), 0);
        Edge.due("recover()", x.recover(), 0);
        Edge.due("settle()", x.settle(), 0);
        int[] many = {0, 0, 0, 0, 4, 0, 0, 1};
        for (int what = 0; what < many.length; what++) {
            Edge.due("many(" + what + ")", x.many(what), many[what]);
        }
    }

    private static void noLetters() {
        Edge.due("letter(0, 0)", new LostHosts().letter(0, 0), UNKNOWN);
        Edge.due("deliver(0)", new LostHosts().deliver(0), UNKNOWN);
    }

    private static void constants() {
        Edge.due("UNKNOWN", LostHosts.UNKNOWN, -1);
        Edge.due("OUTSIDE", LostHosts.OUTSIDE, -2);
        Edge.due("STATE", LostHosts.STATE, -3);
        Edge.due("FULL", LostHosts.FULL, -4);
        Edge.due("NONE", LostHosts.NONE, -9);
    }

    private static void face() {
        Set<String> face = new TreeSet<>(Arrays.asList(
            "UNKNOWN", "OUTSIDE", "STATE", "FULL", "NONE", "new[]", "object[int, boolean]", "root[int, boolean]",
            "link[int, int]", "unlink[int, int]", "ofObject[int, int]", "weight[int, int]", "give[int, int, int]",
            "deliver[int]", "letter[int, int]", "collect[int]", "stays[int]", "old[int, int]", "trace[int]",
            "back[int, int]", "kill[int]", "recover[]", "settle[]", "reached[]", "far[int]", "many[int]"));
        Set<String> found = new TreeSet<>();
        for (Field f : LostHosts.class.getDeclaredFields()) {
            addSeen(found, f, f.getName());
        }
        for (Constructor<?> c : LostHosts.class.getDeclaredConstructors()) {
            addSeen(found, c, "new" + Arrays.toString(c.getParameterTypes()));
        }
        for (Method m : LostHosts.class.getDeclaredMethods()) {
            addSeen(found, m, m.getName() + Arrays.toString(m.getParameterTypes()));
        }
        Edge.due("members that are not private, " + found, found.equals(face) ? 1 : 0, 1);
        int modifiers = LostHosts.class.getModifiers();
        Edge.due("public and final", Modifier.isPublic(modifiers) && Modifier.isFinal(modifiers) ? 1 : 0, 1);
    }

    private static void addSeen(Set<String> found, Member m, String name) {
        if (!Modifier.isPrivate(m.getModifiers()) && !m.isSynthetic()) {
            found.add(name);
        }
    }

    private static void promise2() {
        Edge.test(2, "HOSTS 0 .. 3 are UP, till they are DEAD.", EdgesOfObjects::firstAndLastHost);
        Edge.test(2, "UNKNOWN (there is no such HOST, OBJECT, LETTER)", EdgesOfObjects::objectOnNoHost);
        Edge.test(2, "OBJECTS, 10 at most, are numbered from 0 on as they come", EdgesOfObjects::tenAtMost);
        Edge.test(2, "(a number never comes again)", EdgesOfObjects::numbersNeverAgain);
        Edge.test(2, "UNKNOWN; STATE: the HOST is DEAD; FULL.", EdgesOfObjects::objectOnDeadHost);
        Edge.test(2, "of a call's line the first that fits is answered, in the order told there",
            EdgesOfObjects::objectRefusalsInOrder);
        Edge.test(2, "An OBJECT comes on a HOST, a ROOT or not: its number.", EdgesOfObjects::asItComes);
    }

    private static void firstAndLastHost() {
        LostHosts x = new LostHosts();
        Edge.due("object(3, false)", x.object(3, false), 0);
        Edge.due("object(0, false)", x.object(0, false), 1);
        Edge.due("kill(3)", x.kill(3), 1);
        Edge.due("object(3, false)", x.object(3, false), STATE);
        Edge.due("object(0, false)", x.object(0, false), 2);
        Edge.due("object(1, false)", x.object(1, false), 3);
        Edge.due("object(2, false)", x.object(2, false), 4);
        Edge.due("kill(0)", x.kill(0), 2);
        Edge.due("object(0, false)", x.object(0, false), STATE);
        Edge.due("object(1, false)", x.object(1, false), 5);
    }

    private static void objectOnNoHost() {
        for (int h : Edge.NO_HOSTS) {
            Edge.unchanged("object(" + h + ", true)", Edge::busy, x -> x.object(h, true), UNKNOWN);
        }
    }

    private static void tenAtMost() {
        LostHosts x = new LostHosts();
        for (int a = 0; a < 10; a++) {
            Edge.due("ofObject(" + a + ", 0)", x.ofObject(a, 0), UNKNOWN);
            Edge.due("object(0, true)", x.object(0, true), a);
            Edge.due("many(0)", x.many(0), a + 1);
        }
        Edge.due("object(0, true), the eleventh", x.object(0, true), FULL);
        Edge.unchanged("object(0, true), the eleventh", Edge::ten, y -> y.object(0, true), FULL);
        Edge.unchanged("object(3, false), the eleventh", Edge::ten, y -> y.object(3, false), FULL);
    }

    private static void numbersNeverAgain() {
        LostHosts x = new LostHosts();
        for (int a = 0; a < 10; a++) {
            Edge.due("object(0, false)", x.object(0, false), a);
            Edge.due("collect(0)", x.collect(0), 1);
        }
        Edge.due("many(0)", x.many(0), 0);
        Edge.due("object(0, false), all ten are GONE", x.object(0, false), FULL);
    }

    private static void objectOnDeadHost() {
        Edge.unchanged("object(3, true)", Edge::busy, x -> x.object(3, true), STATE);
        Edge.unchanged("object(3, false)", Edge::busy, x -> x.object(3, false), STATE);
    }

    private static LostHosts tenWithDeadHost() {
        LostHosts x = Edge.ten();
        x.kill(2);
        return x;
    }

    private static void objectRefusalsInOrder() {
        Edge.unchanged("object(4, true), UNKNOWN and FULL", Edge::ten, x -> x.object(4, true), UNKNOWN);
        Edge.unchanged("object(-1, true), UNKNOWN and FULL", Edge::ten, x -> x.object(-1, true), UNKNOWN);
        Edge.unchanged("object(2, true), STATE and FULL", EdgesOfObjects::tenWithDeadHost,
            x -> x.object(2, true), STATE);
        Edge.unchanged("object(1, true), FULL alone", EdgesOfObjects::tenWithDeadHost, x -> x.object(1, true), FULL);
    }

    private static void asItComes() {
        int[] first = {3, 1, 1, 0, 0, 0, 0};
        int[] last = {2, 0, 1, 0, 0, 0, 0};
        LostHosts x = Edge.with("3R000000002");
        for (int what = 0; what < 7; what++) {
            Edge.due("ofObject(0, " + what + ")", x.ofObject(0, what), first[what]);
            Edge.due("ofObject(9, " + what + ")", x.ofObject(9, what), last[what]);
        }
    }

    private static void promise3() {
        Edge.test(3, "An OBJECT is a ROOT (true), or is not: 1; 0: it was so.", EdgesOfObjects::rootOrNot);
        Edge.test(3, "An OBJECT is a ROOT (true), or is not: 1; 0: it was so.", EdgesOfObjects::firstAndLastRoot);
        Edge.test(3, "UNKNOWN (there is no such HOST, OBJECT, LETTER)", EdgesOfObjects::rootOfNoObject);
        Edge.test(3, "UNKNOWN; STATE: it is GONE.", EdgesOfObjects::rootOfGone);
        Edge.test(3, "it may be a ROOT (a LINK to it can be had from another HOST, too, by its name)",
            EdgesOfObjects::rootByName);
    }

    private static void rootOrNot() {
        Edge.unchanged("root(0, true), it was so", Edge::busy, x -> x.root(0, true), 0);
        Edge.unchanged("root(2, false), it was so", Edge::busy, x -> x.root(2, false), 0);
        LostHosts x = Edge.busy();
        for (int times = 0; times < 3; times++) {
            Edge.due("root(0, false)", x.root(0, false), 1);
            Edge.due("ofObject(0, 1)", x.ofObject(0, 1), 0);
            Edge.due("root(0, false), again", x.root(0, false), 0);
            Edge.due("root(0, true)", x.root(0, true), 1);
            Edge.due("ofObject(0, 1)", x.ofObject(0, 1), 1);
            Edge.due("root(0, true), again", x.root(0, true), 0);
        }
    }

    private static void firstAndLastRoot() {
        LostHosts x = Edge.ten();
        Edge.due("root(9, false)", x.root(9, false), 1);
        Edge.due("reached()", x.reached(), 0b0111111111);
        Edge.due("root(0, false)", x.root(0, false), 1);
        Edge.due("reached()", x.reached(), 0b0111111110);
        Edge.due("root(9, true)", x.root(9, true), 1);
        Edge.due("reached()", x.reached(), 0b1111111110);
    }

    private static void rootOfNoObject() {
        for (int a : Edge.noObjects(7)) {
            Edge.unchanged("root(" + a + ", true)", Edge::busy, x -> x.root(a, true), UNKNOWN);
            Edge.unchanged("root(" + a + ", false)", Edge::busy, x -> x.root(a, false), UNKNOWN);
        }
        Edge.unchanged("root(10, false), ten OBJECTS", Edge::ten, x -> x.root(10, false), UNKNOWN);
    }

    private static void rootOfGone() {
        for (int a : new int[] {4, 6}) {
            Edge.unchanged("root(" + a + ", true)", Edge::busy, x -> x.root(a, true), STATE);
            Edge.unchanged("root(" + a + ", false)", Edge::busy, x -> x.root(a, false), STATE);
        }
    }

    private static void rootByName() {
        LostHosts x = Edge.with("01");
        Edge.due("link(0, 1), 1 is no ROOT", x.link(0, 1), STATE);
        Edge.due("root(1, true)", x.root(1, true), 1);
        Edge.due("link(0, 1), 1 is a ROOT", x.link(0, 1), 1);
        Edge.due("root(1, false)", x.root(1, false), 1);
        Edge.due("weight(0, 1), the LINK is there yet", x.weight(0, 1), 64);
    }

    private static void promise4() {
        Edge.test(4, "NEAR, if they are on one HOST", EdgesOfObjects::nearLink);
        Edge.test(4, "else FAR, with WEIGHT 64, by which OUT of b becomes more: 1", EdgesOfObjects::farLinks);
        Edge.test(4, "0: there is one already (nothing changes).", EdgesOfObjects::linkThere);
        Edge.test(4, "A LINK leads from an OBJECT to another one, one at most from one to one",
            EdgesOfObjects::linksBothWays);
        Edge.test(4, "UNKNOWN (there is no such HOST, OBJECT, LETTER)", EdgesOfObjects::linkOfNoObject);
        Edge.test(4, "STATE: they are one, one is GONE, they are on two HOSTS and b is no ROOT.",
            EdgesOfObjects::linkRefused);
        Edge.test(4, "of a call's line the first that fits is answered, in the order told there",
            EdgesOfObjects::linkRefusalsInOrder);
        Edge.test(4, "A LINK from a to b comes at once", EdgesOfObjects::linksAmongTen);
        Edge.test(4, "A LINK from a to b comes at once", EdgesOfObjects::linkWithSixtyLetters);
        Edge.test(4, "it is 0 also as a LINK to it comes", EdgesOfObjects::ageAsLinkComes);
    }

    private static void nearLink() {
        for (int h = 0; h < 4; h++) {
            LostHosts x = Edge.with("" + h + h);
            Edge.due("link(0, 1) on HOST " + h, x.link(0, 1), 1);
            Edge.due("weight(0, 1)", x.weight(0, 1), 0);
            Edge.due("ofObject(1, 3)", x.ofObject(1, 3), 0);
        }
        LostHosts y = Edge.with("0R0R");
        Edge.due("link(0, 1), both ROOTS", y.link(0, 1), 1);
        Edge.due("weight(0, 1), both ROOTS", y.weight(0, 1), 0);
    }

    private static void farLinks() {
        LostHosts x = Edge.with("0R111111222");
        for (int a = 1; a < 10; a++) {
            Edge.due("ofObject(0, 3)", x.ofObject(0, 3), 64 * (a - 1));
            Edge.due("link(" + a + ", 0)", x.link(a, 0), 1);
            Edge.due("weight(" + a + ", 0)", x.weight(a, 0), 64);
            Edge.due("ofObject(" + a + ", 3)", x.ofObject(a, 3), 0);
        }
        Edge.due("ofObject(0, 3), nine LINKS", x.ofObject(0, 3), 576);
    }

    private static LostHosts aged() {
        LostHosts x = Edge.splitOff(2);
        x.root(2, false);
        x.collect(1);
        x.root(2, true);
        return x;
    }

    private static void linkThere() {
        Edge.unchanged("link(0, 2), a NEAR one", Edge::busy, x -> x.link(0, 2), 0);
        Edge.unchanged("link(0, 1), a FAR one", Edge::busy, x -> x.link(0, 1), 0);
        Edge.unchanged("link(0, 2), of WEIGHT 16, AGE 1", EdgesOfObjects::aged, x -> x.link(0, 2), 0);
        Edge.due("ofObject(2, 4)", aged().ofObject(2, 4), 1);
    }

    private static void linksBothWays() {
        LostHosts x = Edge.with("0R01R");
        Edge.due("link(0, 1)", x.link(0, 1), 1);
        Edge.due("link(1, 0)", x.link(1, 0), 1);
        Edge.due("link(0, 2)", x.link(0, 2), 1);
        Edge.due("link(2, 0)", x.link(2, 0), 1);
        Edge.due("link(1, 0), again", x.link(1, 0), 0);
        Edge.due("link(2, 0), again", x.link(2, 0), 0);
        Edge.due("many(2)", x.many(2), 2);
        Edge.due("many(3)", x.many(3), 2);
        Edge.due("ofObject(0, 3)", x.ofObject(0, 3), 64);
        Edge.due("ofObject(2, 3)", x.ofObject(2, 3), 64);
    }

    private static void linkOfNoObject() {
        for (int n : Edge.noObjects(7)) {
            Edge.unchanged("link(" + n + ", 0)", Edge::busy, x -> x.link(n, 0), UNKNOWN);
            Edge.unchanged("link(0, " + n + ")", Edge::busy, x -> x.link(0, n), UNKNOWN);
        }
        Edge.unchanged("link(10, 9), ten OBJECTS", Edge::ten, x -> x.link(10, 9), UNKNOWN);
        Edge.unchanged("link(9, 10), ten OBJECTS", Edge::ten, x -> x.link(9, 10), UNKNOWN);
    }

    private static void linkRefused() {
        Edge.unchanged("link(0, 0), a ROOT itself", Edge::busy, x -> x.link(0, 0), STATE);
        Edge.unchanged("link(2, 2), no ROOT itself", Edge::busy, x -> x.link(2, 2), STATE);
        Edge.unchanged("link(4, 0), a is GONE", Edge::busy, x -> x.link(4, 0), STATE);
        Edge.unchanged("link(0, 4), b is GONE, on one HOST", Edge::busy, x -> x.link(0, 4), STATE);
        Edge.unchanged("link(0, 6), b is a GONE ROOT", Edge::busy, x -> x.link(0, 6), STATE);
        Edge.unchanged("link(4, 6), both are GONE", Edge::busy, x -> x.link(4, 6), STATE);
        Edge.unchanged("link(4, 4), one that is GONE", Edge::busy, x -> x.link(4, 4), STATE);
        Edge.unchanged("link(1, 2), a is a ROOT, b is none", Edge::busy, x -> x.link(1, 2), STATE);
        Edge.unchanged("link(2, 5), neither is a ROOT", Edge::busy, x -> x.link(2, 5), STATE);
        LostHosts x = Edge.busy();
        Edge.due("link(5, 1), b is a ROOT on one HOST", x.link(5, 1), 1);
        Edge.due("link(5, 3), b is a ROOT, a is none", x.link(5, 3), 1);
    }

    private static LostHosts linkedToNoRoot() {
        LostHosts x = Edge.busy();
        x.root(1, false);
        return x;
    }

    private static void linkRefusalsInOrder() {
        Edge.unchanged("link(7, 7), one that is UNKNOWN", Edge::busy, x -> x.link(7, 7), UNKNOWN);
        Edge.unchanged("link(4, 7), a is GONE, b UNKNOWN", Edge::busy, x -> x.link(4, 7), UNKNOWN);
        Edge.unchanged("link(-1, 4), a is UNKNOWN, b GONE", Edge::busy, x -> x.link(-1, 4), UNKNOWN);
        Edge.unchanged("link(0, 1), there is one, but b is no ROOT", EdgesOfObjects::linkedToNoRoot,
            x -> x.link(0, 1), STATE);
    }

    private static void linksAmongTen() {
        LostHosts x = Edge.ten();
        for (int a = 0; a < 10; a++) {
            for (int b = 0; b < 10; b++) {
                Edge.due("link(" + a + ", " + b + ")", x.link(a, b), a == b ? STATE : 1);
            }
        }
        for (int a = 0; a < 10; a++) {
            Edge.due("ofObject(" + a + ", 5)", x.ofObject(a, 5), 1023 ^ 1 << a);
            Edge.due("ofObject(" + a + ", 6)", x.ofObject(a, 6), 1023 ^ 1 << a);
            for (int b = 0; b < 10; b++) {
                Edge.due("weight(" + a + ", " + b + ")", x.weight(a, b), a == b ? NONE : a % 4 == b % 4 ? 0 : 64);
            }
        }
    }

    private static void linkWithSixtyLetters() {
        LostHosts x = Edge.full();
        Edge.due("link(2, 1)", x.link(2, 1), 1);
        Edge.due("link(2, 0)", x.link(2, 0), 1);
        Edge.due("many(1)", x.many(1), 60);
    }

    private static void ageAsLinkComes() {
        LostHosts x = aged();
        Edge.due("ofObject(2, 4)", x.ofObject(2, 4), 1);
        Edge.due("object(3, false)", x.object(3, false), 3);
        Edge.due("link(3, 2)", x.link(3, 2), 1);
        Edge.due("ofObject(2, 4), as a FAR LINK comes", x.ofObject(2, 4), 0);
        LostHosts y = aged();
        y.object(1, false);
        Edge.due("link(3, 2)", y.link(3, 2), 1);
        Edge.due("ofObject(2, 4), as a NEAR LINK comes", y.ofObject(2, 4), 0);
        LostHosts z = aged();
        z.object(1, false);
        Edge.due("link(2, 3)", z.link(2, 3), 1);
        Edge.due("ofObject(2, 4), as a LINK from it comes", z.ofObject(2, 4), 1);
    }

    private static void promise5() {
        Edge.test(5, "The LINK from a to b is no more: 0, if it is NEAR", EdgesOfObjects::unlinkNear);
        Edge.test(5, "1: it was FAR, a RETURN of its WEIGHT is sent.", EdgesOfObjects::unlinkFar);
        Edge.test(5, "1: it was FAR, a RETURN of its WEIGHT is sent.", EdgesOfObjects::unlinkWeightOfOne);
        Edge.test(5, "UNKNOWN (there is no such HOST, OBJECT, LETTER)", EdgesOfObjects::unlinkOfNoObject);
        Edge.test(5, "STATE: there is none", EdgesOfObjects::unlinkRefused);
        Edge.test(5, "FULL: there are 60 LETTERS, and it is FAR.", EdgesOfObjects::unlinkAtSixty);
        Edge.test(5, "FULL: there are 60 LETTERS, and it is FAR.", EdgesOfObjects::unlinkBeyondSixty);
        Edge.test(5, "of a call's line the first that fits is answered, in the order told there",
            EdgesOfObjects::unlinkRefusalsInOrder);
    }

    private static void unlinkNear() {
        LostHosts x = Edge.with("0R000000000");
        for (int b = 1; b < 10; b++) {
            Edge.due("link(0, " + b + ")", x.link(0, b), 1);
        }
        for (int b = 9; b > 0; b--) {
            Edge.due("unlink(0, " + b + ")", x.unlink(0, b), 0);
            Edge.due("weight(0, " + b + ")", x.weight(0, b), NONE);
            Edge.due("ofObject(0, 5)", x.ofObject(0, 5), (1 << b) - 2);
        }
        Edge.due("many(1)", x.many(1), 0);
    }

    private static void unlinkFar() {
        LostHosts x = Edge.with("01R");
        Edge.due("link(0, 1)", x.link(0, 1), 1);
        Edge.due("unlink(0, 1)", x.unlink(0, 1), 1);
        Edge.due("weight(0, 1)", x.weight(0, 1), NONE);
        int[] letter = {1, 1, 64, 1, NONE};
        for (int what = 0; what < 5; what++) {
            Edge.due("letter(0, " + what + ")", x.letter(0, what), letter[what]);
        }
        Edge.due("ofObject(1, 3), till it arrives", x.ofObject(1, 3), 64);
        Edge.due("link(0, 1), anew", x.link(0, 1), 1);
        Edge.due("weight(0, 1), anew", x.weight(0, 1), 64);
        Edge.due("ofObject(1, 3), anew", x.ofObject(1, 3), 128);
    }

    private static void unlinkWeightOfOne() {
        LostHosts x = Edge.splitOff(6);
        Edge.due("weight(0, 2)", x.weight(0, 2), 1);
        Edge.due("unlink(0, 2)", x.unlink(0, 2), 1);
        Edge.due("letter(0, 2)", x.letter(0, 2), 1);
        Edge.due("many(6), nothing is FILLED", x.many(6), 0);
        Edge.due("unlink(1, 2)", x.unlink(1, 2), 1);
        Edge.due("letter(1, 2)", x.letter(1, 2), 63);
    }

    private static void unlinkOfNoObject() {
        for (int n : Edge.noObjects(7)) {
            Edge.unchanged("unlink(" + n + ", 1)", Edge::busy, x -> x.unlink(n, 1), UNKNOWN);
            Edge.unchanged("unlink(0, " + n + ")", Edge::busy, x -> x.unlink(0, n), UNKNOWN);
        }
        Edge.unchanged("unlink(10, 9), ten OBJECTS", Edge::ten, x -> x.unlink(10, 9), UNKNOWN);
        Edge.unchanged("unlink(9, 10), ten OBJECTS", Edge::ten, x -> x.unlink(9, 10), UNKNOWN);
    }

    private static LostHosts unlinked() {
        LostHosts x = Edge.busy();
        Edge.due("unlink(0, 1)", x.unlink(0, 1), 1);
        Edge.due("unlink(0, 2)", x.unlink(0, 2), 0);
        return x;
    }

    private static void unlinkRefused() {
        Edge.unchanged("unlink(0, 5), there never was one", Edge::busy, x -> x.unlink(0, 5), STATE);
        Edge.unchanged("unlink(1, 0), it leads the other way", Edge::busy, x -> x.unlink(1, 0), STATE);
        Edge.unchanged("unlink(0, 0), itself", Edge::busy, x -> x.unlink(0, 0), STATE);
        Edge.unchanged("unlink(4, 0), a is GONE", Edge::busy, x -> x.unlink(4, 0), STATE);
        Edge.unchanged("unlink(0, 6), b is GONE", Edge::busy, x -> x.unlink(0, 6), STATE);
        Edge.unchanged("unlink(1, 2), a GRANT is under way, no LINK", Edge::busy, x -> x.unlink(1, 2), STATE);
        Edge.unchanged("unlink(0, 1), a second time", EdgesOfObjects::unlinked, x -> x.unlink(0, 1), STATE);
        Edge.unchanged("unlink(0, 2), a second time", EdgesOfObjects::unlinked, x -> x.unlink(0, 2), STATE);
    }

    private static void unlinkAtSixty() {
        LostHosts x = Edge.lettered(59);
        Edge.due("unlink(0, 3), 59 LETTERS", x.unlink(0, 3), 1);
        Edge.due("many(1)", x.many(1), 60);
        Edge.due("unlink(0, 1), 60 LETTERS", x.unlink(0, 1), FULL);
        Edge.unchanged("unlink(0, 3), 60 LETTERS", Edge::full, y -> y.unlink(0, 3), FULL);
        LostHosts y = Edge.full();
        Edge.due("unlink(0, 2), NEAR, 60 LETTERS", y.unlink(0, 2), 0);
        Edge.due("many(1)", y.many(1), 60);
        Edge.due("deliver(0)", y.deliver(0), 0);
        Edge.due("unlink(0, 3), 59 LETTERS again", y.unlink(0, 3), 1);
        Edge.due("letter(59, 0)", y.letter(59, 0), 1);
    }

    /** 60 LETTERS, and the RETURNS of OBJECT 2, that is GONE, to 3 and 4; 0 has LINKS to 1, 3, 4. */
    static LostHosts beyondSixty() {
        LostHosts x = Edge.with("01R02R3R");
        Edge.links(x, "01 03 04 23 24");
        for (int i = 0; i < 60; i++) {
            Edge.due("setting up: give " + i, x.give(0, 1, 0), 1);
        }
        Edge.due("setting up: collect(0)", x.collect(0), 1);
        return x;
    }

    private static void unlinkBeyondSixty() {
        Edge.due("many(1)", beyondSixty().many(1), 62);
        Edge.unchanged("unlink(0, 1), 62 LETTERS", EdgesOfObjects::beyondSixty, x -> x.unlink(0, 1), FULL);
        LostHosts x = beyondSixty();
        for (int letters = 62; letters >= 60; letters--) {
            Edge.due("unlink(0, 1), " + letters + " LETTERS", x.unlink(0, 1), FULL);
            Edge.due("deliver(0)", x.deliver(0), 0);
        }
        Edge.due("unlink(0, 1), 59 LETTERS", x.unlink(0, 1), 1);
    }

    private static void unlinkRefusalsInOrder() {
        Edge.unchanged("unlink(4, 7), a is GONE, b UNKNOWN", Edge::busy, x -> x.unlink(4, 7), UNKNOWN);
        Edge.unchanged("unlink(0, 4), UNKNOWN and FULL", Edge::full, x -> x.unlink(0, 4), UNKNOWN);
        Edge.unchanged("unlink(2, 3), STATE and FULL", Edge::full, x -> x.unlink(2, 3), STATE);
        Edge.unchanged("unlink(0, 0), STATE and FULL", Edge::full, x -> x.unlink(0, 0), STATE);
    }

    private static void promise6() {
        Edge.test(6, "0 its HOST, 1 whether it is a ROOT (1, 0), 2 whether it is not GONE (1, 0), 3 OUT, 4 AGE, "
            + "5 to which LINKS lead from it, as a set, 6 from which LINKS lead to it, as a set.",
            EdgesOfObjects::firstAndLastWhat);
        Edge.test(6, "UNKNOWN; OUTSIDE.", EdgesOfObjects::whatOutside);
        Edge.test(6, "UNKNOWN (there is no such HOST, OBJECT, LETTER)", EdgesOfObjects::ofNoObject);
        Edge.test(6, "of a call's line the first that fits is answered, in the order told there",
            EdgesOfObjects::ofObjectRefusalsInOrder);
        Edge.test(6, "GONE OBJECTS have no LINKS, none lead to them.", EdgesOfObjects::ofGone);
        Edge.test(6, "Sets of OBJECTS are told as bits (bit k for OBJECT k).", EdgesOfObjects::setsOfNoneAndNine);
        Edge.test(6, "how much WEIGHT of it was given out and has not come back (0 at first)",
            EdgesOfObjects::outAndBack);
    }

    private static void firstAndLastWhat() {
        int[] of0 = {0, 1, 1, 0, 0, 0b1110, 0};
        int[] of1 = {1, 1, 1, 128, 0, 0b100000, 0b1};
        int[] of2 = {0, 0, 1, 64, 0, 0, 0b1};
        LostHosts x = Edge.busy();
        for (int what = 0; what < 7; what++) {
            int asked = what;
            Edge.due("ofObject(0, " + what + ")", x.ofObject(0, what), of0[what]);
            Edge.due("ofObject(1, " + what + ")", x.ofObject(1, what), of1[what]);
            Edge.due("ofObject(2, " + what + ")", x.ofObject(2, what), of2[what]);
            Edge.unchanged("ofObject(0, " + what + ")", Edge::busy, y -> y.ofObject(0, asked), of0[what]);
        }
    }

    private static void whatOutside() {
        for (int what : new int[] {-1, 7, 32, 38, Edge.LEAST, Edge.MOST}) {
            Edge.unchanged("ofObject(0, " + what + ")", Edge::busy, x -> x.ofObject(0, what), OUTSIDE);
            Edge.unchanged("ofObject(4, " + what + "), GONE", Edge::busy, x -> x.ofObject(4, what), OUTSIDE);
        }
    }

    private static void ofNoObject() {
        for (int a : Edge.noObjects(7)) {
            Edge.unchanged("ofObject(" + a + ", 0)", Edge::busy, x -> x.ofObject(a, 0), UNKNOWN);
            Edge.unchanged("ofObject(" + a + ", 6)", Edge::busy, x -> x.ofObject(a, 6), UNKNOWN);
        }
        Edge.due("ofObject(10, 0), ten OBJECTS", Edge.ten().ofObject(10, 0), UNKNOWN);
    }

    private static void ofObjectRefusalsInOrder() {
        Edge.unchanged("ofObject(7, 7)", Edge::busy, x -> x.ofObject(7, 7), UNKNOWN);
        Edge.unchanged("ofObject(-1, -1)", Edge::busy, x -> x.ofObject(-1, -1), UNKNOWN);
    }

    private static void ofGone() {
        LostHosts x = Edge.with("0R0R1R1R");
        Edge.links(x, "01 10 02 20 12 21 23 32");
        Edge.due("kill(0)", x.kill(0), 2);
        for (int a = 0; a < 2; a++) {
            Edge.due("ofObject(" + a + ", 2)", x.ofObject(a, 2), 0);
            Edge.due("ofObject(" + a + ", 5)", x.ofObject(a, 5), 0);
            Edge.due("ofObject(" + a + ", 6)", x.ofObject(a, 6), 0);
        }
        Edge.due("ofObject(2, 5), the LINKS of others are there", x.ofObject(2, 5), 0b1000);
        Edge.due("ofObject(2, 6)", x.ofObject(2, 6), 0b1000);
    }

    private static void setsOfNoneAndNine() {
        LostHosts x = Edge.with("0000000000");
        for (int b = 0; b < 9; b++) {
            Edge.due("ofObject(9, 5)", x.ofObject(9, 5), (1 << b) - 1);
            Edge.due("link(9, " + b + ")", x.link(9, b), 1);
            Edge.due("ofObject(" + b + ", 6)", x.ofObject(b, 6), 512);
            Edge.due("ofObject(" + b + ", 5)", x.ofObject(b, 5), 0);
        }
        Edge.due("ofObject(9, 5)", x.ofObject(9, 5), 511);
        Edge.due("ofObject(9, 6)", x.ofObject(9, 6), 0);
    }

    private static void outAndBack() {
        LostHosts x = Edge.with("01R");
        for (int times = 0; times < 3; times++) {
            Edge.due("ofObject(1, 3)", x.ofObject(1, 3), 0);
            Edge.due("link(0, 1)", x.link(0, 1), 1);
            Edge.due("ofObject(1, 3)", x.ofObject(1, 3), 64);
            Edge.due("unlink(0, 1)", x.unlink(0, 1), 1);
            Edge.due("ofObject(1, 3), under way", x.ofObject(1, 3), 64);
            Edge.due("deliver(0)", x.deliver(0), 1);
        }
        Edge.due("ofObject(1, 3), all came back", x.ofObject(1, 3), 0);
    }

    private static void promise7() {
        Edge.test(7, "WEIGHT of the LINK from a to b; 0: it is NEAR; NONE: there is none.", EdgesOfObjects::weights);
        Edge.test(7, "else it is FAR and has a WEIGHT, above 0", EdgesOfObjects::weightAboveZero);
        Edge.test(7, "UNKNOWN (there is no such HOST, OBJECT, LETTER)", EdgesOfObjects::weightOfNoObject);
        Edge.test(7, "GONE OBJECTS have no LINKS, none lead to them.", EdgesOfObjects::weightOfGone);
    }

    private static void weights() {
        LostHosts x = Edge.busy();
        Edge.due("weight(0, 1)", x.weight(0, 1), 64);
        Edge.due("weight(0, 2)", x.weight(0, 2), 0);
        Edge.due("weight(0, 3)", x.weight(0, 3), 32);
        Edge.due("weight(2, 0), the other way", x.weight(2, 0), NONE);
        Edge.due("weight(0, 0), itself", x.weight(0, 0), NONE);
        Edge.due("weight(0, 5), there never was one", x.weight(0, 5), NONE);
        Edge.due("weight(2, 1), no more", x.weight(2, 1), NONE);
        Edge.due("weight(1, 2), a GRANT is under way", x.weight(1, 2), NONE);
        Edge.unchanged("weight(0, 3)", Edge::busy, y -> y.weight(0, 3), 32);
    }

    private static void weightAboveZero() {
        int weight = 64;
        for (int times = 0; times <= 6; times++) {
            LostHosts x = Edge.splitOff(times);
            Edge.due("weight(0, 2) after " + times, x.weight(0, 2), weight);
            Edge.due("weight(1, 2) after " + times, x.weight(1, 2), times == 0 ? NONE : 64 - weight);
            weight /= 2;
        }
    }

    private static void weightOfNoObject() {
        for (int n : Edge.noObjects(7)) {
            Edge.unchanged("weight(" + n + ", 0)", Edge::busy, x -> x.weight(n, 0), UNKNOWN);
            Edge.unchanged("weight(0, " + n + ")", Edge::busy, x -> x.weight(0, n), UNKNOWN);
            Edge.unchanged("weight(4, " + n + "), GONE", Edge::busy, x -> x.weight(4, n), UNKNOWN);
        }
        Edge.due("weight(10, 9), ten OBJECTS", Edge.ten().weight(10, 9), UNKNOWN);
        Edge.due("weight(9, 10), ten OBJECTS", Edge.ten().weight(9, 10), UNKNOWN);
    }

    private static void weightOfGone() {
        LostHosts x = Edge.with("0R0R1R1R");
        Edge.links(x, "01 10 02 20 12 21 23 32");
        Edge.due("kill(0)", x.kill(0), 2);
        for (int a = 0; a < 4; a++) {
            for (int b = 0; b < 4; b++) {
                Edge.due("weight(" + a + ", " + b + ")", x.weight(a, b), a + b == 5 && a != b ? 0 : NONE);
            }
        }
        Edge.due("weight(0, 6), never linked, GONE", Edge.busy().weight(0, 6), NONE);
    }
}

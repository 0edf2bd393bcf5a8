/** Boundary cases of promises 11 to 21: what is lost. Each test names its promise and the sentence it tests. */
final class EdgesOfLost {
    private static final int UNKNOWN = Edge.UNKNOWN, OUTSIDE = Edge.OUTSIDE, STATE = Edge.STATE;
    private static final int NONE = Edge.NONE;
    private static final int ALL = 1023;

    private EdgesOfLost() { }

    static void run() {
        promise11();
        promise11Age();
        promise12();
        promise13();
        promise14();
        promise15();
        promise16();
        promise17();
        promise18();
        promise19();
        promise20();
        promise21();
    }

    /** All ten on HOST 0, the last one a ROOT, NEAR LINKS from each to the one ahead of it. */
    private static LostHosts nearChain() {
        LostHosts x = Edge.with("0000000000R");
        Edge.links(x, "98 87 76 65 54 43 32 21 10");
        return x;
    }

    /** All ten over four HOSTS in a ring, and no ROOT. */
    private static LostHosts ringOfTen() {
        LostHosts x = Edge.ten();
        for (int a = 0; a < 10; a++) {
            Edge.due("setting up: link", x.link(a, (a + 1) % 10), 1);
        }
        for (int a = 0; a < 10; a++) {
            x.root(a, false);
        }
        return x;
    }

    /** OBJECT 2 on HOST 1 is no ROOT, and its OUT is 1, that the LINK of 0 to it has. */
    private static LostHosts outOfOne() {
        LostHosts x = Edge.splitOff(6);
        x.unlink(1, 2);
        x.deliver(0);
        x.root(2, false);
        return x;
    }

    private static LostHosts allDead() {
        LostHosts x = Edge.busy();
        for (int h = 0; h < 3; h++) {
            x.kill(h);
        }
        return x;
    }

    private static void promise11() {
        Edge.test(11, "COLLECTING: how many became GONE.", EdgesOfLost::collectNoneOrAll);
        Edge.test(11, "UNKNOWN; STATE: the HOST is DEAD.", EdgesOfLost::collectRefused);
        Edge.test(11, "STAYING are its ROOTS and its OBJECTS whose OUT is above 0", EdgesOfLost::collectAtOutOfOne);
        Edge.test(11, "all to which NEAR LINKS lead from such that STAY", EdgesOfLost::collectChain);
        Edge.test(11, "the others of the HOST become GONE.", EdgesOfLost::collectRing);
        Edge.test(11, "a RETURN of its WEIGHT is sent, by OBJECTS, then by those to which they lead.",
            EdgesOfLost::returnsInOrder);
        Edge.test(11, "a RETURN of its WEIGHT is sent, by OBJECTS, then by those to which they lead.",
            EdgesOfLost::returnsBeyondSixty);
    }

    private static void collectNoneOrAll() {
        Edge.due("collect(2), an empty HOST", Edge.with("0R1").collect(2), 0);
        Edge.unchanged("collect(0), a ROOT alone", Edge::ten, x -> x.collect(0), 0);
        LostHosts x = Edge.with("3333333333");
        Edge.due("collect(2)", x.collect(2), 0);
        Edge.due("collect(3), all ten", x.collect(3), 10);
        Edge.due("many(0)", x.many(0), 0);
        Edge.due("collect(3), none is left", x.collect(3), 0);
    }

    private static void collectRefused() {
        for (int h : Edge.NO_HOSTS) {
            Edge.unchanged("collect(" + h + ")", Edge::busy, x -> x.collect(h), UNKNOWN);
        }
        Edge.unchanged("collect(3), DEAD", Edge::busy, x -> x.collect(3), STATE);
        LostHosts x = new LostHosts();
        for (int h = 0; h < 4; h++) {
            Edge.due("collect(" + h + "), UP", x.collect(h), 0);
            Edge.due("kill(" + h + "), empty", x.kill(h), 0);
            Edge.due("collect(" + h + "), DEAD", x.collect(h), STATE);
        }
    }

    private static void collectAtOutOfOne() {
        LostHosts x = outOfOne();
        Edge.due("ofObject(2, 3)", x.ofObject(2, 3), 1);
        Edge.due("collect(1), OUT is 1", x.collect(1), 0);
        Edge.due("unlink(0, 2)", x.unlink(0, 2), 1);
        Edge.due("collect(1), the RETURN is under way", x.collect(1), 0);
        Edge.due("deliver(0)", x.deliver(0), 1);
        Edge.due("collect(1), OUT is 0", x.collect(1), 1);
        Edge.due("ofObject(2, 2)", x.ofObject(2, 2), 0);
    }

    private static void collectChain() {
        LostHosts x = nearChain();
        Edge.due("collect(0), behind a ROOT", x.collect(0), 0);
        Edge.due("unlink(5, 4)", x.unlink(5, 4), 0);
        Edge.due("collect(0), cut", x.collect(0), 5);
        Edge.due("stays(0)", x.stays(0), 0b1111100000);
        Edge.due("root(9, false)", x.root(9, false), 1);
        Edge.due("collect(0), no ROOT", x.collect(0), 5);
        LostHosts y = Edge.with("000000000R1");
        Edge.links(y, "87 76 65 54 43 32 21 10 98");
        Edge.due("root(8, false)", y.root(8, false), 1);
        Edge.due("collect(0), behind one whose OUT is above 0", y.collect(0), 0);
    }

    private static void collectRing() {
        LostHosts x = Edge.with("0R00");
        Edge.links(x, "01 12 21");
        Edge.due("collect(0), the ring is linked", x.collect(0), 0);
        Edge.due("unlink(0, 1)", x.unlink(0, 1), 0);
        Edge.due("collect(0), the ring links itself alone", x.collect(0), 2);
        Edge.due("many(2)", x.many(2), 0);
        Edge.due("many(1), NEAR LINKS send no RETURNS", x.many(1), 0);
        LostHosts y = ringOfTen();
        for (int h = 0; h < 4; h++) {
            Edge.due("collect(" + h + "), a ring of FAR LINKS", y.collect(h), 0);
        }
    }

    private static void returnsInOrder() {
        LostHosts x = Edge.with("01R02R3R0R");
        Edge.links(x, "24 23 21 04 03 01 02 05 25");
        Edge.due("give(0, 2, 1)", x.give(0, 2, 1), 0);
        Edge.due("collect(0)", x.collect(0), 2);
        Edge.due("stays(0)", x.stays(0), 0b100000);
        Edge.due("many(1), none for the NEAR LINKS to 5, that STAYS", x.many(1), 6);
        int[] about = {1, 3, 4, 1, 3, 4};
        int[] weight = {32, 64, 64, 96, 64, 64};
        for (int k = 0; k < 6; k++) {
            Edge.due("letter(" + k + ", 0)", x.letter(k, 0), 1);
            Edge.due("letter(" + k + ", 2)", x.letter(k, 2), weight[k]);
            Edge.due("letter(" + k + ", 3)", x.letter(k, 3), about[k]);
        }
        Edge.due("many(7)", x.many(7), 1);
    }

    private static void returnsBeyondSixty() {
        LostHosts x = EdgesOfObjects.beyondSixty();
        Edge.due("many(1), 60 and two more", x.many(1), 62);
        Edge.due("letter(59, 0), the 60th", x.letter(59, 0), 0);
        Edge.due("letter(60, 0), the 61st", x.letter(60, 0), 1);
        Edge.due("letter(60, 3)", x.letter(60, 3), 3);
        Edge.due("letter(61, 3), the 62nd", x.letter(61, 3), 4);
        Edge.due("letter(62, 3)", x.letter(62, 3), UNKNOWN);
        Edge.due("many(7)", x.many(7), 1);
    }

    private static void promise11Age() {
        Edge.test(11, "else 1 more (9 at most)", EdgesOfLost::ageNineAtMost);
        Edge.test(11, "it is 0, if it is a ROOT or NEAR LINKS lead to it from a ROOT (one behind another)",
            EdgesOfLost::ageBehindRoot);
        Edge.test(11, "it is 0, if it is a ROOT or NEAR LINKS lead to it from a ROOT (one behind another)",
            EdgesOfLost::ageBehindFarLink);
        Edge.test(11, "with each COLLECTING of its HOST by which it STAYS", EdgesOfLost::ageOfItsHost);
    }

    private static void ageNineAtMost() {
        LostHosts x = outOfOne();
        for (int times = 0; times < 30; times++) {
            Edge.due("ofObject(2, 4) after " + times, x.ofObject(2, 4), Math.min(times, 9));
            Edge.due("collect(1)", x.collect(1), 0);
        }
    }

    private static void ageBehindRoot() {
        LostHosts x = nearChain();
        Edge.due("collect(0)", x.collect(0), 0);
        Edge.due("old(0, 1)", x.old(0, 1), 0);
        LostHosts y = Edge.with("0R0R01R");
        Edge.links(y, "30 12");
        y.root(0, false);
        Edge.due("collect(0)", y.collect(0), 0);
        Edge.due("old(0, 1), by OUT alone", y.old(0, 1), 0b001);
        Edge.due("root(0, true)", y.root(0, true), 1);
        Edge.due("old(0, 1), till it COLLECTS", y.old(0, 1), 0b001);
        Edge.due("collect(0)", y.collect(0), 0);
        Edge.due("old(0, 1), a ROOT whose OUT is above 0", y.old(0, 1), 0);
        Edge.due("root(0, false)", y.root(0, false), 1);
        Edge.due("root(1, false)", y.root(1, false), 1);
        Edge.due("collect(0)", y.collect(0), 2);
        Edge.due("ofObject(0, 4), from 0 on again", y.ofObject(0, 4), 1);
        Edge.due("ofObject(2, 4), GONE without a STAY", y.ofObject(2, 4), 0);
    }

    private static void ageBehindFarLink() {
        LostHosts x = Edge.with("0R1R11");
        Edge.links(x, "01 12 23");
        x.root(1, false);
        for (int times = 1; times <= 3; times++) {
            Edge.due("collect(1)", x.collect(1), 0);
            for (int a = 1; a < 4; a++) {
                Edge.due("ofObject(" + a + ", 4)", x.ofObject(a, 4), times);
            }
        }
    }

    private static void ageOfItsHost() {
        LostHosts x = outOfOne();
        for (int h : new int[] {0, 2, 3}) {
            x.collect(h);
            Edge.due("ofObject(2, 4) after collect(" + h + ")", x.ofObject(2, 4), 0);
        }
        x.collect(1);
        Edge.due("ofObject(2, 4) after collect(1)", x.ofObject(2, 4), 1);
        x.collect(4);
        Edge.due("ofObject(2, 4) after collect(4)", x.ofObject(2, 4), 1);
    }

    private static void promise12() {
        Edge.test(12, "Which OBJECTS would be STAYING on a HOST, as a set.", EdgesOfLost::staysNoneOrAll);
        Edge.test(12, "STAYING are its ROOTS and its OBJECTS whose OUT is above 0", EdgesOfLost::staysAtOutOfOne);
        Edge.test(12, "UNKNOWN (there is no such HOST, OBJECT, LETTER)", EdgesOfLost::staysOnNoHost);
        Edge.test(12, "What is told is by how all is when it is asked.", EdgesOfLost::staysWhenAsked);
    }

    private static void staysNoneOrAll() {
        Edge.unchanged("stays(0), a chain of ten", EdgesOfLost::nearChain, x -> x.stays(0), ALL);
        Edge.unchanged("stays(1), an empty HOST", EdgesOfLost::nearChain, x -> x.stays(1), 0);
        Edge.unchanged("stays(3), DEAD", Edge::busy, x -> x.stays(3), 0);
        Edge.unchanged("stays(0), one is GONE", Edge::busy, x -> x.stays(0), 0b101);
        Edge.due("stays(0), none STAYS", Edge.with("0000000000").stays(0), 0);
        Edge.due("stays(1), OBJECT 9 alone", Edge.ten().stays(1), 0b1000100010);
    }

    private static void staysAtOutOfOne() {
        LostHosts x = outOfOne();
        Edge.due("stays(1), OUT is 1", x.stays(1), 0b100);
        x.unlink(0, 2);
        Edge.due("stays(1), the RETURN is under way", x.stays(1), 0b100);
        x.deliver(0);
        Edge.due("stays(1), OUT is 0", x.stays(1), 0);
    }

    private static void staysOnNoHost() {
        for (int h : Edge.NO_HOSTS) {
            Edge.unchanged("stays(" + h + ")", Edge::busy, x -> x.stays(h), UNKNOWN);
        }
    }

    private static void staysWhenAsked() {
        LostHosts x = nearChain();
        x.root(9, false);
        Edge.due("stays(0), no ROOT", x.stays(0), 0);
        Edge.due("many(0), they are there yet", x.many(0), 10);
        x.root(4, true);
        Edge.due("stays(0), another ROOT", x.stays(0), 0b0000011111);
        x.unlink(2, 1);
        Edge.due("stays(0), cut", x.stays(0), 0b0000011100);
    }

    private static void promise13() {
        Edge.test(13, "OBJECTS of a HOST (not GONE) whose AGE is v or more (0 .. 9), as a set.",
            EdgesOfLost::oldOfEachAge);
        Edge.test(13, "OBJECTS of a HOST (not GONE) whose AGE is v or more (0 .. 9), as a set.",
            EdgesOfLost::oldNoneOrAll);
        Edge.test(13, "UNKNOWN; OUTSIDE.", EdgesOfLost::oldRefused);
        Edge.test(13, "of a call's line the first that fits is answered, in the order told there",
            EdgesOfLost::oldRefusalsInOrder);
    }

    /** OBJECTS 1 to 9 on HOST 1, held by OUT alone, OBJECT a of AGE 10 - a. */
    private static LostHosts ofEachAge() {
        LostHosts x = Edge.with("0R");
        for (int a = 1; a < 10; a++) {
            x.object(1, true);
            Edge.due("setting up: link(0, " + a + ")", x.link(0, a), 1);
            x.root(a, false);
            x.collect(1);
        }
        return x;
    }

    private static void oldOfEachAge() {
        LostHosts x = ofEachAge();
        int[] sets = {1022, 1022, 510, 254, 126, 62, 30, 14, 6, 2};
        for (int v = 0; v < 10; v++) {
            Edge.due("old(1, " + v + ")", x.old(1, v), sets[v]);
        }
        x.collect(1);
        Edge.due("old(1, 9), one more", x.old(1, 9), 6);
        Edge.due("old(1, 2), one more", x.old(1, 2), 1022);
        for (int times = 0; times < 9; times++) {
            x.collect(1);
        }
        Edge.due("old(1, 9), all", x.old(1, 9), 1022);
        Edge.unchanged("old(1, 5)", EdgesOfLost::ofEachAge, y -> y.old(1, 5), 62);
    }

    private static void oldNoneOrAll() {
        Edge.due("old(0, 0), all ten", nearChain().old(0, 0), ALL);
        Edge.due("old(0, 1), none", nearChain().old(0, 1), 0);
        Edge.due("old(1, 0), an empty HOST", nearChain().old(1, 0), 0);
        Edge.due("old(0, 0), one is GONE", Edge.busy().old(0, 0), 0b101);
        Edge.due("old(3, 0), DEAD", Edge.busy().old(3, 0), 0);
        LostHosts x = ofEachAge();
        x.kill(1);
        Edge.due("old(1, 0), DEAD", x.old(1, 0), 0);
        Edge.due("old(1, 9), DEAD", x.old(1, 9), 0);
    }

    private static void oldRefused() {
        for (int h : Edge.NO_HOSTS) {
            Edge.unchanged("old(" + h + ", 0)", Edge::busy, x -> x.old(h, 0), UNKNOWN);
            Edge.unchanged("old(" + h + ", 9)", Edge::busy, x -> x.old(h, 9), UNKNOWN);
        }
        for (int v : new int[] {-1, 10, 11, 64, Edge.LEAST, Edge.MOST}) {
            Edge.unchanged("old(0, " + v + ")", Edge::busy, x -> x.old(0, v), OUTSIDE);
            Edge.unchanged("old(3, " + v + "), DEAD", Edge::busy, x -> x.old(3, v), OUTSIDE);
        }
    }

    private static void oldRefusalsInOrder() {
        Edge.unchanged("old(4, 10)", Edge::busy, x -> x.old(4, 10), UNKNOWN);
        Edge.unchanged("old(-1, -1)", Edge::busy, x -> x.old(-1, -1), UNKNOWN);
    }

    private static void promise14() {
        Edge.test(14, "A TRACE of b: if it is not HELD, all of BACK become GONE.", EdgesOfLost::traceOneOrAll);
        Edge.test(14, "TRACE: how many became GONE; 0: it is HELD.", EdgesOfLost::traceHeld);
        Edge.test(14, "UNKNOWN; STATE: it is GONE.", EdgesOfLost::traceRefused);
        Edge.test(14, "for each FAR one of its own to an OBJECT that is not GONE (nor becomes so by the same call)",
            EdgesOfLost::noReturnsWithinBack);
        Edge.test(14, "a RETURN of its WEIGHT is sent, by OBJECTS, then by those to which they lead.",
            EdgesOfLost::mostLetters);
        Edge.test(14, "An OBJECT that becomes GONE loses its LINKS and those to it", EdgesOfLost::traceTakesLinks);
    }

    private static void traceOneOrAll() {
        LostHosts x = Edge.with("0R0");
        Edge.due("trace(1), it alone", x.trace(1), 1);
        Edge.due("many(0)", x.many(0), 1);
        for (int b = 0; b < 10; b++) {
            LostHosts y = ringOfTen();
            Edge.due("trace(" + b + "), all ten", y.trace(b), 10);
            Edge.due("many(0)", y.many(0), 0);
        }
        LostHosts z = nearChain();
        z.root(9, false);
        Edge.due("trace(9), nothing leads to it", z.trace(9), 1);
        Edge.due("trace(0), the others", z.trace(0), 9);
    }

    private static LostHosts ringWithRoot(int root) {
        LostHosts x = ringOfTen();
        x.root(root, true);
        return x;
    }

    private static LostHosts ringWithLetter(boolean grant) {
        LostHosts x = ringOfTen();
        Edge.due("setting up: letter", grant ? x.give(4, 5, 4) : x.unlink(9, 0), 1);
        return x;
    }

    private static void traceHeld() {
        for (int b = 0; b < 10; b++) {
            int traced = b;
            Edge.unchanged("trace(" + b + "), 7 is a ROOT", () -> ringWithRoot(7), x -> x.trace(traced), 0);
            Edge.unchanged("trace(" + b + "), a GRANT of 4", () -> ringWithLetter(true), x -> x.trace(traced), 0);
        }
        Edge.due("trace(9), a RETURN of 0", ringWithLetter(false).trace(9), 10);
        Edge.due("trace(0), a RETURN of 0", ringWithLetter(false).trace(0), 1);
        LostHosts x = ringWithLetter(true);
        Edge.due("deliver(0)", x.deliver(0), 0);
        Edge.due("trace(4), the GRANT has arrived", x.trace(4), 10);
        LostHosts y = Edge.with("0R01R");
        Edge.links(y, "01 02");
        Edge.due("give(0, 2, 1)", y.give(0, 2, 1), 1);
        y.root(0, false);
        y.root(2, false);
        Edge.due("trace(1), a GRANT of it", y.trace(1), 0);
        Edge.due("trace(2), a GRANT to it, none of it", y.trace(2), 2);
        Edge.due("trace(1), a GRANT of it to a GONE one", y.trace(1), 0);
        y.kill(1);
        Edge.due("trace(1), a GRANT of it to a DEAD HOST", y.trace(1), 0);
        Edge.due("deliver(0)", y.deliver(0), 0);
        Edge.due("trace(1), no GRANT", y.trace(1), 1);
    }

    private static void traceRefused() {
        for (int b : Edge.noObjects(7)) {
            Edge.unchanged("trace(" + b + ")", Edge::busy, x -> x.trace(b), UNKNOWN);
        }
        Edge.unchanged("trace(4), GONE", Edge::busy, x -> x.trace(4), STATE);
        Edge.unchanged("trace(6), a GONE ROOT", Edge::busy, x -> x.trace(6), STATE);
        Edge.unchanged("trace(10), ten OBJECTS", Edge::ten, x -> x.trace(10), UNKNOWN);
        LostHosts x = ringOfTen();
        x.trace(0);
        for (int b = 0; b < 10; b++) {
            Edge.due("trace(" + b + "), GONE", x.trace(b), STATE);
        }
    }

    private static void noReturnsWithinBack() {
        LostHosts x = ringOfTen();
        x.trace(3);
        Edge.due("many(1), all ten", x.many(1), 0);
        LostHosts y = Edge.with("0R1R2R3R");
        Edge.links(y, "01 12 20 03 23");
        for (int a = 0; a < 3; a++) {
            y.root(a, false);
        }
        Edge.due("trace(1)", y.trace(1), 3);
        Edge.due("many(1), to 3 alone", y.many(1), 2);
        Edge.due("letter(0, 3)", y.letter(0, 3), 3);
        Edge.due("letter(1, 3)", y.letter(1, 3), 3);
        Edge.due("many(7)", y.many(7), 1);
    }

    /** 60 RETURNS of 9, then all FAR LINKS that lead upwards come back, as one after the other is GONE. */
    private static void mostLetters() {
        LostHosts x = Edge.ten();
        for (int i = 0; i < 60; i++) {
            x.link(0, 9);
            x.unlink(0, 9);
        }
        int far = 0;
        for (int a = 0; a < 9; a++) {
            for (int b = 9; b > a; b--) {
                far += a % 4 == b % 4 ? 0 : x.link(a, b);
            }
            x.root(a, false);
        }
        Edge.due("FAR LINKS", far, 37);
        for (int a = 0; a < 9; a++) {
            Edge.due("trace(" + a + ")", x.trace(a), 1);
        }
        Edge.due("many(1)", x.many(1), 97);
        int k = 60;
        for (int a = 0; a < 9; a++) {
            for (int b = a + 1; b < 10; b++) {
                if (a % 4 != b % 4) {
                    Edge.due("letter(" + k + ", 3)", x.letter(k, 3), b);
                    k++;
                }
            }
        }
        Edge.due("settle()", x.settle(), 0);
        Edge.due("ofObject(9, 3)", x.ofObject(9, 3), 0);
        Edge.due("many(1)", x.many(1), 0);
    }

    private static void traceTakesLinks() {
        LostHosts x = Edge.with("0R001R");
        Edge.links(x, "01 12 20 23 10");
        x.root(0, false);
        Edge.due("trace(0)", x.trace(0), 3);
        Edge.due("many(2)", x.many(2), 0);
        Edge.due("many(3)", x.many(3), 0);
        Edge.due("ofObject(3, 6)", x.ofObject(3, 6), 0);
        Edge.due("ofObject(0, 5)", x.ofObject(0, 5), 0);
        Edge.due("ofObject(3, 3), till the RETURN arrives", x.ofObject(3, 3), 64);
    }

    private static void promise15() {
        Edge.test(15, "BACK of b: b, and all OBJECTS from which LINKS lead to one that is in it.",
            EdgesOfLost::backOneOrAll);
        Edge.test(15, "1 why it is HELD: 1 by a ROOT, 2 by GRANTS alone, 0: it is not.", EdgesOfLost::whyHeld);
        Edge.test(15, "UNKNOWN; OUTSIDE; STATE: it is GONE.", EdgesOfLost::backRefused);
        Edge.test(15, "of a call's line the first that fits is answered, in the order told there",
            EdgesOfLost::backRefusalsInOrder);
    }

    private static void backOneOrAll() {
        for (int b = 0; b < 10; b++) {
            Edge.due("back(" + b + ", 0), no LINKS", Edge.ten().back(b, 0), 1 << b);
            Edge.due("back(" + b + ", 0), a ring", ringOfTen().back(b, 0), ALL);
            Edge.due("back(" + b + ", 0), a chain", nearChain().back(b, 0), ALL & -(1 << b));
        }
        Edge.unchanged("back(5, 0)", Edge::busy, x -> x.back(5, 0), 0b100011);
        Edge.unchanged("back(5, 1)", Edge::busy, x -> x.back(5, 1), 1);
    }

    private static void whyHeld() {
        for (int b = 0; b < 10; b++) {
            Edge.due("back(" + b + ", 1), no ROOT, no GRANT", ringOfTen().back(b, 1), 0);
            Edge.due("back(" + b + ", 1), 7 is a ROOT", ringWithRoot(7).back(b, 1), 1);
            Edge.due("back(" + b + ", 1), a GRANT of 4", ringWithLetter(true).back(b, 1), 2);
            Edge.due("back(" + b + ", 1), a RETURN of 0", ringWithLetter(false).back(b, 1), 0);
        }
        LostHosts x = ringWithLetter(true);
        x.root(0, true);
        Edge.due("back(4, 1), a GRANT and a ROOT", x.back(4, 1), 1);
        x.root(0, false);
        Edge.due("back(4, 1), a GRANT alone", x.back(4, 1), 2);
        x.kill(1);
        Edge.due("back(4, 1), a GRANT to a DEAD HOST", x.back(4, 1), 2);
        x.deliver(0);
        Edge.due("back(4, 1), no GRANT", x.back(4, 1), 0);
    }

    private static void backRefused() {
        for (int b : Edge.noObjects(7)) {
            Edge.unchanged("back(" + b + ", 0)", Edge::busy, x -> x.back(b, 0), UNKNOWN);
            Edge.unchanged("back(" + b + ", 1)", Edge::busy, x -> x.back(b, 1), UNKNOWN);
        }
        for (int what : new int[] {-1, 2, 32, 33, Edge.LEAST, Edge.MOST}) {
            Edge.unchanged("back(0, " + what + ")", Edge::busy, x -> x.back(0, what), OUTSIDE);
        }
        for (int what = 0; what < 2; what++) {
            int asked = what;
            Edge.unchanged("back(4, " + what + "), GONE", Edge::busy, x -> x.back(4, asked), STATE);
            Edge.unchanged("back(6, " + what + "), GONE", Edge::busy, x -> x.back(6, asked), STATE);
        }
        Edge.due("back(10, 0), ten OBJECTS", Edge.ten().back(10, 0), UNKNOWN);
    }

    private static void backRefusalsInOrder() {
        Edge.unchanged("back(7, 2)", Edge::busy, x -> x.back(7, 2), UNKNOWN);
        Edge.unchanged("back(-1, -1)", Edge::busy, x -> x.back(-1, -1), UNKNOWN);
        Edge.unchanged("back(4, 2), GONE", Edge::busy, x -> x.back(4, 2), OUTSIDE);
        Edge.unchanged("back(6, -1), GONE", Edge::busy, x -> x.back(6, -1), OUTSIDE);
    }

    private static void promise16() {
        Edge.test(16, "A HOST DIES: how many became GONE.", EdgesOfLost::killNoneOrAll);
        Edge.test(16, "UNKNOWN; STATE: it is DEAD.", EdgesOfLost::killRefused);
        Edge.test(16, "all its OBJECTS become GONE, but no RETURNS are sent.", EdgesOfLost::killSendsNothing);
        Edge.test(16, "An OBJECT that becomes GONE loses its LINKS and those to it", EdgesOfLost::killTakesLinks);
        Edge.test(16, "HOSTS 0 .. 3 are UP, till they are DEAD.", EdgesOfLost::killAll);
    }

    private static void killNoneOrAll() {
        Edge.due("kill(1), an empty HOST", nearChain().kill(1), 0);
        Edge.due("kill(0), all ten", nearChain().kill(0), 10);
        Edge.due("kill(0), one was GONE", Edge.busy().kill(0), 2);
        int[] living = {3, 3, 2, 2};
        LostHosts x = Edge.ten();
        for (int h = 3; h >= 0; h--) {
            Edge.due("kill(" + h + ")", x.kill(h), living[h]);
        }
        Edge.due("many(0)", x.many(0), 0);
    }

    private static void killRefused() {
        for (int h : Edge.NO_HOSTS) {
            Edge.unchanged("kill(" + h + ")", Edge::busy, x -> x.kill(h), UNKNOWN);
        }
        Edge.unchanged("kill(3), DEAD", Edge::busy, x -> x.kill(3), STATE);
        for (int h = 0; h < 4; h++) {
            int dead = h;
            Edge.unchanged("kill(" + h + "), DEAD", EdgesOfLost::allDead, x -> x.kill(dead), STATE);
        }
    }

    private static void killSendsNothing() {
        LostHosts x = Edge.ten();
        for (int b = 1; b < 10; b++) {
            x.link(0, b);
        }
        Edge.due("kill(0)", x.kill(0), 3);
        Edge.due("many(1)", x.many(1), 0);
        for (int b = 1; b < 10; b++) {
            Edge.due("ofObject(" + b + ", 3), OUT stays", x.ofObject(b, 3), b % 4 == 0 ? 0 : 64);
        }
        LostHosts y = Edge.busy();
        Edge.due("kill(0)", y.kill(0), 2);
        Edge.due("many(1), LETTERS are under way yet", y.many(1), 3);
        LostHosts z = Edge.full();
        Edge.due("kill(0), 60 LETTERS", z.kill(0), 2);
        Edge.due("many(1)", z.many(1), 60);
    }

    private static void killTakesLinks() {
        LostHosts x = Edge.with("0R0R1R2R");
        Edge.links(x, "01 12 20 21 02 23 32");
        Edge.due("kill(0)", x.kill(0), 2);
        Edge.due("ofObject(2, 5)", x.ofObject(2, 5), 0b1000);
        Edge.due("ofObject(2, 6)", x.ofObject(2, 6), 0b1000);
        Edge.due("many(2)", x.many(2), 0);
        Edge.due("many(3)", x.many(3), 2);
    }

    private static void killAll() {
        Edge.due("many(4)", allDead().many(4), 0);
        for (int h = 0; h < 4; h++) {
            int dead = h;
            Edge.unchanged("object(" + h + ", true)", EdgesOfLost::allDead, x -> x.object(dead, true), STATE);
            Edge.unchanged("collect(" + h + ")", EdgesOfLost::allDead, x -> x.collect(dead), STATE);
            Edge.unchanged("stays(" + h + ")", EdgesOfLost::allDead, x -> x.stays(dead), 0);
        }
        Edge.due("reached()", allDead().reached(), 0);
        Edge.due("recover()", allDead().recover(), 0);
        Edge.due("settle()", allDead().settle(), 0);
        Edge.due("many(7)", allDead().many(7), 1);
    }

    private static void promise17() {
        Edge.test(17, "RECOVERING: by how much OUT of all OBJECTS together is less.", EdgesOfLost::recoverNothing);
        Edge.test(17, "RECOVERING: by how much OUT of all OBJECTS together is less.", EdgesOfLost::recoverAll);
        Edge.test(17, "what LINKS to it and LETTERS about it have as WEIGHTS together (but LETTERS that go to DEAD "
            + "HOSTS).", EdgesOfLost::recoverWithLetters);
        Edge.test(17, "OUT of each OBJECT that is not GONE becomes", EdgesOfLost::recoverGone);
    }

    private static void recoverNothing() {
        Edge.due("recover(), no OBJECTS", new LostHosts().recover(), 0);
        Edge.unchanged("recover(), no LINKS", Edge::ten, LostHosts::recover, 0);
        Edge.unchanged("recover(), all is right", Edge::busy, LostHosts::recover, 0);
        Edge.unchanged("recover(), 60 LETTERS", Edge::full, LostHosts::recover, 0);
        Edge.unchanged("recover(), 62 LETTERS", EdgesOfObjects::beyondSixty, LostHosts::recover, 0);
        Edge.unchanged("recover(), all HOSTS are DEAD", EdgesOfLost::allDead, LostHosts::recover, 0);
    }

    private static void recoverAll() {
        LostHosts x = Edge.ten();
        for (int b = 1; b < 10; b++) {
            x.link(0, b);
        }
        Edge.due("kill(0)", x.kill(0), 3);
        Edge.due("recover(), seven FAR LINKS", x.recover(), 7 * 64);
        for (int b = 1; b < 10; b++) {
            Edge.due("ofObject(" + b + ", 3)", x.ofObject(b, 3), 0);
        }
        Edge.due("recover(), again", x.recover(), 0);
        LostHosts y = outOfOne();
        Edge.due("kill(0)", y.kill(0), 2);
        Edge.due("recover(), a LINK of WEIGHT 1", y.recover(), 1);
        Edge.due("collect(1), OUT is 0", y.collect(1), 1);
    }

    private static void recoverWithLetters() {
        LostHosts x = Edge.full();
        Edge.due("unlink(0, 2)", x.unlink(0, 2), 0);
        Edge.due("kill(1)", x.kill(1), 1);
        Edge.due("recover(), 60 GRANTS to a DEAD HOST", x.recover(), 3840);
        Edge.due("ofObject(0, 3)", x.ofObject(0, 3), 0);
        Edge.due("ofObject(3, 3), a LINK of one that is UP", x.ofObject(3, 3), 64);
        Edge.due("many(1), the LETTERS are under way yet", x.many(1), 60);
        Edge.due("deliver(0)", x.deliver(0), 0);
        Edge.due("ofObject(0, 3), nothing comes of it", x.ofObject(0, 3), 0);
        LostHosts y = Edge.lettered(3);
        Edge.due("give(0, 3, 0)", y.give(0, 3, 0), 1);
        Edge.due("unlink(0, 3)", y.unlink(0, 3), 1);
        Edge.due("kill(1)", y.kill(1), 1);
        Edge.due("recover(), three of four GRANTS of 0", y.recover(), 192);
        Edge.due("ofObject(0, 3), a GRANT to a HOST that is UP", y.ofObject(0, 3), 64);
        Edge.due("ofObject(3, 3), a RETURN", y.ofObject(3, 3), 64);
        Edge.due("recover(), again", y.recover(), 0);
    }

    private static void recoverGone() {
        LostHosts x = Edge.lettered(2);
        Edge.due("kill(0)", x.kill(0), 2);
        Edge.due("recover(), 64 of 1, 64 of 3", x.recover(), 128);
        Edge.due("ofObject(0, 3), GONE", x.ofObject(0, 3), 128);
        Edge.due("ofObject(1, 3)", x.ofObject(1, 3), 0);
    }

    private static void promise18() {
        Edge.test(18, "SETTLING: how many became GONE.", EdgesOfLost::settleNothing);
        Edge.test(18, "SETTLING: how many became GONE.", EdgesOfLost::settleChainOfTen);
        Edge.test(18, "all LETTERS arrive, the first one first, also those that are sent meanwhile",
            EdgesOfLost::settleLetters);
        Edge.test(18, "then each HOST that is UP COLLECTS, by number", EdgesOfLost::settleByNumber);
        Edge.test(18, "all this as long as it makes some OBJECT GONE or some LETTER is there then.",
            EdgesOfLost::settleRounds);
    }

    private static void settleNothing() {
        Edge.due("settle(), no OBJECTS", new LostHosts().settle(), 0);
        Edge.unchanged("settle(), ROOTS alone", Edge::ten, LostHosts::settle, 0);
        Edge.due("settle(), a ring is not lost for it", ringOfTen().settle(), 0);
        Edge.due("settle(), all HOSTS are DEAD", allDead().settle(), 0);
        LostHosts x = allDead();
        x.settle();
        Edge.due("many(1), LETTERS to DEAD HOSTS arrive", x.many(1), 0);
        Edge.due("settle(), all ten", Edge.with("0123012301").settle(), 10);
    }

    private static void settleChainOfTen() {
        for (boolean upwards : new boolean[] {true, false}) {
            LostHosts x = Edge.ten();
            for (int a = 0; a < 9; a++) {
                Edge.due("link", upwards ? x.link(a, a + 1) : x.link(a + 1, a), 1);
            }
            for (int a = 0; a < 10; a++) {
                x.root(a, a == (upwards ? 0 : 9));
            }
            Edge.due("settle(), a ROOT holds them", x.settle(), 0);
            x.root(upwards ? 0 : 9, false);
            Edge.due("settle(), one behind another", x.settle(), 10);
            Edge.due("many(1)", x.many(1), 0);
        }
    }

    private static void settleLetters() {
        LostHosts x = EdgesOfObjects.beyondSixty();
        Edge.due("settle(), 62 LETTERS", x.settle(), 0);
        Edge.due("many(1)", x.many(1), 0);
        Edge.due("weight(1, 0)", x.weight(1, 0), 3840);
        Edge.due("many(7)", x.many(7), 1);
        LostHosts y = Edge.with("01R2R");
        Edge.links(y, "01 02");
        Edge.due("give(0, 1, 2)", y.give(0, 1, 2), 1);
        Edge.due("unlink(0, 1)", y.unlink(0, 1), 1);
        Edge.due("deliver(1)", y.deliver(1), 1);
        Edge.due("root(1, false)", y.root(1, false), 1);
        Edge.due("collect(1)", y.collect(1), 1);
        Edge.due("unlink(0, 2)", y.unlink(0, 2), 1);
        Edge.due("root(2, false)", y.root(2, false), 1);
        Edge.due("settle(), a RETURN is sent meanwhile", y.settle(), 2);
        Edge.due("many(0)", y.many(0), 0);
    }

    /** 1 on HOST 1 is held by the ROOT 0, each COLLECTING makes it older; one more is GONE with each round. */
    private static LostHosts counting(boolean upwards) {
        LostHosts x = Edge.with(upwards ? "3R1R0R1R2R" : "3R1R2R1R0R");
        Edge.links(x, "01 23 34");
        for (int a = 1; a < 5; a++) {
            x.root(a, false);
        }
        return x;
    }

    private static void settleByNumber() {
        LostHosts x = counting(true);
        Edge.due("settle()", x.settle(), 3);
        Edge.due("many(0)", x.many(0), 2);
        Edge.due("ofObject(1, 4), a round for each, and one more", x.ofObject(1, 4), 4);
        LostHosts y = Edge.with("0R01R");
        Edge.links(y, "01 12");
        y.root(0, false);
        y.root(2, false);
        Edge.due("settle(), 0 and 1 in one round, 2 in the next", y.settle(), 3);
        LostHosts z = Edge.with("0R1R01");
        Edge.links(z, "01");
        z.root(1, false);
        z.kill(0);
        Edge.due("settle(), a DEAD HOST does not COLLECT", z.settle(), 1);
        Edge.due("ofObject(1, 4), two rounds", z.ofObject(1, 4), 2);
    }

    private static void settleRounds() {
        LostHosts x = counting(false);
        Edge.due("settle()", x.settle(), 3);
        Edge.due("ofObject(1, 4)", x.ofObject(1, 4), 4);
        Edge.due("settle(), again", x.settle(), 0);
        Edge.due("ofObject(1, 4), one round", x.ofObject(1, 4), 5);
        for (int times = 0; times < 10; times++) {
            Edge.due("settle(), again", x.settle(), 0);
        }
        Edge.due("ofObject(1, 4), 9 at most", x.ofObject(1, 4), 9);
    }

    private static void promise19() {
        Edge.test(19, "REACHED: ROOTS, all to which LINKS lead from what is REACHED", EdgesOfLost::reachedNoneOrAll);
        Edge.test(19, "all b of which a GRANT to one that is REACHED is under way", EdgesOfLost::reachedByGrants);
        Edge.test(19, "What is told is by how all is when it is asked.", EdgesOfLost::reachedWhenAsked);
        Edge.test(19, "Sets of OBJECTS are told as bits (bit k for OBJECT k).", EdgesOfLost::reachedBits);
    }

    private static void reachedNoneOrAll() {
        Edge.unchanged("reached(), all are ROOTS", Edge::ten, LostHosts::reached, ALL);
        Edge.unchanged("reached(), no ROOTS", EdgesOfLost::ringOfTen, LostHosts::reached, 0);
        Edge.unchanged("reached(), one ROOT in a ring", () -> ringWithRoot(3), LostHosts::reached, ALL);
        Edge.unchanged("reached(), a chain", EdgesOfLost::nearChain, LostHosts::reached, ALL);
        Edge.unchanged("reached(), LINKS and GRANTS, without the GONE", Edge::busy, LostHosts::reached, 0b101111);
        Edge.due("reached(), no OBJECTS", new LostHosts().reached(), 0);
        Edge.due("reached(), no ROOTS, no LINKS", Edge.with("0123").reached(), 0);
    }

    /** 9, on HOST 3, gives to each of 0 to 7 the one behind it; 0 alone is a ROOT. */
    private static LostHosts chainOfGrants() {
        LostHosts x = Edge.with("0R1R2R0R1R2R0R1R2R3");
        for (int b = 0; b < 9; b++) {
            Edge.due("setting up: link(9, " + b + ")", x.link(9, b), 1);
        }
        for (int a = 7; a >= 0; a--) {
            Edge.due("setting up: give(9, " + a + ", " + (a + 1) + ")", x.give(9, a, a + 1), 1);
        }
        for (int a = 1; a < 9; a++) {
            x.root(a, false);
        }
        return x;
    }

    private static void reachedByGrants() {
        LostHosts x = chainOfGrants();
        Edge.due("reached(), one GRANT behind another", x.reached(), 511);
        Edge.due("deliver(4)", x.deliver(4), 0);
        Edge.due("reached(), a LINK came of one", x.reached(), 511);
        Edge.due("unlink(3, 4)", x.unlink(3, 4), 1);
        Edge.due("reached(), a RETURN reaches nothing", x.reached(), 0b1111);
        LostHosts y = chainOfGrants();
        y.kill(2);
        Edge.due("reached(), a GRANT of a GONE one", y.reached(), 0b0011);
        y.kill(0);
        Edge.due("reached(), GRANTS to a GONE ROOT", y.reached(), 0);
        LostHosts z = Edge.with("01R1R");
        Edge.links(z, "01 02");
        Edge.due("give(0, 1, 2)", z.give(0, 1, 2), 1);
        z.root(2, false);
        Edge.due("reached(), by a GRANT", z.reached(), 0b110);
        Edge.due("deliver(0), the last LETTER", z.deliver(0), 0);
        Edge.due("unlink(1, 2)", z.unlink(1, 2), 0);
        Edge.due("reached(), the GRANT is under way no more", z.reached(), 0b010);
    }

    private static void reachedWhenAsked() {
        LostHosts x = ringWithRoot(0);
        Edge.due("reached()", x.reached(), ALL);
        Edge.due("unlink(4, 5)", x.unlink(4, 5), 1);
        Edge.due("reached(), cut", x.reached(), 0b11111);
        Edge.due("root(0, false)", x.root(0, false), 1);
        Edge.due("reached(), no ROOT", x.reached(), 0);
        Edge.due("root(9, true)", x.root(9, true), 1);
        Edge.due("reached(), from 9 on", x.reached(), 0b1000011111);
        Edge.due("kill(1)", x.kill(1), 3);
        Edge.due("reached(), the ROOT is GONE", x.reached(), 0);
    }

    private static void reachedBits() {
        for (int a = 0; a < 10; a++) {
            LostHosts x = Edge.with("0123012301");
            x.root(a, true);
            Edge.due("reached(), " + a + " alone", x.reached(), 1 << a);
        }
    }

    private static void promise20() {
        Edge.test(20, "By how few LINKS, GRANTS (each counts as one) one comes from some ROOT to b (0: it is one)",
            EdgesOfLost::farZeroToNine);
        Edge.test(20, "By how few LINKS, GRANTS (each counts as one) one comes from some ROOT to b (0: it is one)",
            EdgesOfLost::farByGrants);
        Edge.test(20, "NONE: it is not REACHED.", EdgesOfLost::farNone);
        Edge.test(20, "UNKNOWN; STATE: it is GONE.", EdgesOfLost::farRefused);
    }

    private static void farZeroToNine() {
        for (int b = 0; b < 10; b++) {
            int asked = b;
            Edge.unchanged("far(" + b + "), a chain", EdgesOfLost::nearChain, x -> x.far(asked), 9 - b);
            Edge.due("far(" + b + "), a ring", ringWithRoot(0).far(b), b);
            Edge.due("far(" + b + "), a ROOT", Edge.ten().far(b), 0);
        }
        LostHosts x = ringWithRoot(0);
        x.root(6, true);
        Edge.due("far(5), from the first ROOT", x.far(5), 5);
        Edge.due("far(6), it is one", x.far(6), 0);
        Edge.due("far(9), from the nearer ROOT", x.far(9), 3);
        Edge.due("link(0, 4), a shorter way", x.link(0, 4), 1);
        Edge.due("far(5)", x.far(5), 2);
        Edge.due("far(4)", x.far(4), 1);
    }

    private static void farByGrants() {
        LostHosts x = chainOfGrants();
        for (int b = 0; b < 9; b++) {
            Edge.due("far(" + b + ")", x.far(b), b);
        }
        Edge.due("far(9), LINKS lead from it alone", x.far(9), NONE);
        x.root(9, true);
        Edge.due("far(8), by a LINK", x.far(8), 1);
        x.root(9, false);
        x.settle();
        Edge.due("far(8), LINKS came of the GRANTS", x.far(8), 8);
    }

    private static void farNone() {
        for (int b = 0; b < 10; b++) {
            Edge.due("far(" + b + "), no ROOT", ringOfTen().far(b), NONE);
        }
        LostHosts x = Edge.with("0R01");
        Edge.due("far(1), no LINK", x.far(1), NONE);
        Edge.due("link(1, 0)", x.link(1, 0), 1);
        Edge.due("far(1), the LINK leads the other way", x.far(1), NONE);
        Edge.due("link(0, 1)", x.link(0, 1), 1);
        Edge.due("far(1)", x.far(1), 1);
        LostHosts y = chainOfGrants();
        y.kill(1);
        Edge.due("far(2), behind a GONE one", y.far(2), NONE);
        Edge.due("far(0), a ROOT", y.far(0), 0);
    }

    private static void farRefused() {
        for (int b : Edge.noObjects(7)) {
            Edge.unchanged("far(" + b + ")", Edge::busy, x -> x.far(b), UNKNOWN);
        }
        Edge.unchanged("far(10), ten OBJECTS", Edge::ten, x -> x.far(10), UNKNOWN);
        Edge.unchanged("far(4), GONE", Edge::busy, x -> x.far(4), STATE);
        Edge.unchanged("far(6), a GONE ROOT", Edge::busy, x -> x.far(6), STATE);
    }

    private static void promise21() {
        Edge.test(21, "0 OBJECTS that are not GONE, 1 LETTERS, 2 NEAR LINKS, 3 FAR ones, 4 HOSTS that are UP, "
            + "5 OBJECTS neither GONE nor REACHED, 6 times that a LINK was FILLED, 7 whether OUT",
            EdgesOfLost::manyOfBusy);
        Edge.test(21, "OUTSIDE.", EdgesOfLost::manyOutside);
        Edge.test(21, "0 OBJECTS that are not GONE", EdgesOfLost::manyObjects);
        Edge.test(21, "1 LETTERS", EdgesOfLost::manyLetters);
        Edge.test(21, "2 NEAR LINKS, 3 FAR ones", EdgesOfLost::manyLinks);
        Edge.test(21, "4 HOSTS that are UP", EdgesOfLost::manyHosts);
        Edge.test(21, "5 OBJECTS neither GONE nor REACHED", EdgesOfLost::manyLost);
        Edge.test(21, "6 times that a LINK was FILLED", EdgesOfLost::manyFilled);
        Edge.test(21, "7 whether OUT of each OBJECT that is not GONE is what LINKS to it and LETTERS about it have "
            + "as WEIGHTS together (1, 0).", EdgesOfLost::manyBalanced);
    }

    private static void manyOfBusy() {
        int[] many = {5, 3, 2, 2, 3, 0, 0, 1};
        for (int what = 0; what < 8; what++) {
            int asked = what;
            Edge.unchanged("many(" + what + ")", Edge::busy, x -> x.many(asked), many[what]);
        }
    }

    private static void manyOutside() {
        for (int what : new int[] {-1, 8, 32, 39, Edge.LEAST, Edge.MOST}) {
            Edge.unchanged("many(" + what + ")", Edge::busy, x -> x.many(what), OUTSIDE);
            Edge.due("many(" + what + "), no OBJECTS", new LostHosts().many(what), OUTSIDE);
        }
    }

    private static void manyObjects() {
        Edge.due("many(0), ten", Edge.ten().many(0), 10);
        LostHosts x = ringOfTen();
        x.trace(0);
        Edge.due("many(0), all ten are GONE", x.many(0), 0);
        x.object(0, true);
        Edge.due("many(0), no eleventh", x.many(0), 0);
    }

    private static void manyLetters() {
        Edge.due("many(1), 59", Edge.lettered(59).many(1), 59);
        LostHosts x = Edge.full();
        Edge.due("many(1), 60", x.many(1), 60);
        x.give(0, 1, 0);
        Edge.due("many(1), no 61st by give", x.many(1), 60);
        Edge.due("many(1), beyond 60 by RETURNS", EdgesOfObjects.beyondSixty().many(1), 62);
        x.settle();
        Edge.due("many(1), none", x.many(1), 0);
    }

    private static void manyLinks() {
        LostHosts x = Edge.with("0000000000");
        LostHosts y = Edge.ten();
        for (int a = 0; a < 10; a++) {
            for (int b = 0; b < 10; b++) {
                x.link(a, b);
                y.link(a, b);
            }
        }
        Edge.due("many(2), all on one HOST", x.many(2), 90);
        Edge.due("many(3), all on one HOST", x.many(3), 0);
        Edge.due("many(2), over four HOSTS", y.many(2), 16);
        Edge.due("many(3), over four HOSTS", y.many(3), 74);
        x.collect(0);
        Edge.due("many(2), all are GONE", x.many(2), 0);
        for (int h = 0; h < 4; h++) {
            y.kill(h);
        }
        Edge.due("many(3), all are GONE", y.many(3), 0);
        Edge.due("many(3), of WEIGHT 1", Edge.splitOff(6).many(3), 2);
    }

    private static void manyHosts() {
        LostHosts x = new LostHosts();
        for (int up = 4; up > 0; up--) {
            Edge.due("many(4)", x.many(4), up);
            x.kill(up - 1);
            x.kill(up - 1);
        }
        Edge.due("many(4)", x.many(4), 0);
    }

    private static void manyLost() {
        Edge.due("many(5), all are ROOTS", Edge.ten().many(5), 0);
        Edge.due("many(5), a ring of ten", ringOfTen().many(5), 10);
        Edge.due("many(5), a ROOT in it", ringWithRoot(9).many(5), 0);
        LostHosts x = ringOfTen();
        x.trace(0);
        Edge.due("many(5), all are GONE", x.many(5), 0);
        LostHosts y = chainOfGrants();
        Edge.due("many(5), REACHED by GRANTS", y.many(5), 1);
        y.kill(1);
        Edge.due("many(5), behind a GONE one", y.many(5), 6);
    }

    private static void manyFilled() {
        for (int times = 0; times <= 14; times++) {
            Edge.due("many(6) after " + times, Edge.splitOff(times).many(6), times < 7 ? 0 : times < 14 ? 1 : 2);
        }
        LostHosts x = Edge.splitOff(7);
        x.kill(1);
        x.kill(0);
        Edge.due("many(6), all are GONE", x.many(6), 1);
    }

    private static void manyBalanced() {
        Edge.due("many(7), no LINKS", Edge.ten().many(7), 1);
        Edge.due("many(7), 60 LETTERS", Edge.full().many(7), 1);
        LostHosts x = outOfOne();
        Edge.due("many(7), OUT is 1", x.many(7), 1);
        x.kill(0);
        Edge.due("many(7), less by 1", x.many(7), 0);
        Edge.due("recover()", x.recover(), 1);
        Edge.due("many(7), as before", x.many(7), 1);
        LostHosts y = Edge.lettered(1);
        y.kill(1);
        Edge.due("many(7), a LETTER to a DEAD HOST", y.many(7), 1);
        y.recover();
        Edge.due("many(7), it is a LETTER about 0 yet", y.many(7), 0);
        y.deliver(0);
        Edge.due("many(7), nothing came of it", y.many(7), 1);
        LostHosts z = Edge.lettered(0);
        z.kill(0);
        Edge.due("many(7), OUT of 1 and 3 is too much", z.many(7), 0);
        z.kill(1);
        z.kill(2);
        Edge.due("many(7), all are GONE", z.many(7), 1);
    }
}

/** Boundary cases of promises 8 to 10: letters. Each test names its promise and the sentence it tests. */
final class EdgesOfLetters {
    private static final int UNKNOWN = Edge.UNKNOWN, OUTSIDE = Edge.OUTSIDE, STATE = Edge.STATE;
    private static final int FULL = Edge.FULL, NONE = Edge.NONE;

    private EdgesOfLetters() { }

    static void run() {
        promise8();
        promise8Refusals();
        promise9();
        promise9Grants();
        promise10();
    }

    private static void promise8() {
        Edge.test(8, "if b is there, too, a has a NEAR LINK to b", EdgesOfLetters::givenNear);
        Edge.test(8, "else the LINK of x to b is SPLIT, and the LINK of a to b has so much more "
            + "(it comes with that, if there was none).", EdgesOfLetters::givenSplit);
        Edge.test(8, "with 64, by which OUT of b becomes more, if x is on the HOST of b",
            EdgesOfLetters::grantedFromHome);
        Edge.test(8, "else with what is SPLIT off the LINK of x to b.", EdgesOfLetters::grantedFromElsewhere);
        Edge.test(8, "if its WEIGHT is 1, it is FILLED first: OUT of b and its WEIGHT become 64 more",
            EdgesOfLetters::filledAtOne);
        Edge.test(8, "if its WEIGHT is 1, it is FILLED first: OUT of b and its WEIGHT become 64 more",
            EdgesOfLetters::notFilledAtTwo);
        Edge.test(8, "if its WEIGHT is 1, it is FILLED first: OUT of b and its WEIGHT become 64 more",
            EdgesOfLetters::filledForGrant);
        Edge.test(8, "then half of its WEIGHT (cut) is taken off it", EdgesOfLetters::oddWeights);
        Edge.test(8, "it is 0 also as a LINK to it comes", EdgesOfLetters::ageAsGiven);
        Edge.test(8, "An object is used for at most 512 calls after it has been made", EdgesOfLetters::weightOf512Calls);
    }

    private static void givenNear() {
        LostHosts x = Edge.with("000");
        Edge.links(x, "01 02");
        Edge.due("give(0, 1, 2)", x.give(0, 1, 2), 0);
        Edge.due("weight(1, 2)", x.weight(1, 2), 0);
        Edge.due("give(0, 1, 0), x is b", x.give(0, 1, 0), 0);
        Edge.due("weight(1, 0)", x.weight(1, 0), 0);
        Edge.due("give(0, 1, 2), again", x.give(0, 1, 2), 0);
        Edge.due("many(2)", x.many(2), 4);
        Edge.due("many(1)", x.many(1), 0);
        for (int b = 0; b < 3; b++) {
            Edge.due("ofObject(" + b + ", 3)", x.ofObject(b, 3), 0);
        }
    }

    private static void givenSplit() {
        LostHosts x = Edge.splitOff(0);
        Edge.due("weight(1, 2)", x.weight(1, 2), NONE);
        int[] more = {32, 48, 56, 60, 62, 63};
        for (int weight : more) {
            Edge.due("give(0, 1, 2)", x.give(0, 1, 2), 0);
            Edge.due("weight(1, 2)", x.weight(1, 2), weight);
            Edge.due("weight(0, 2)", x.weight(0, 2), 64 - weight);
            Edge.due("ofObject(2, 3)", x.ofObject(2, 3), 64);
        }
        Edge.due("many(1)", x.many(1), 0);
    }

    private static void grantedFromHome() {
        LostHosts x = Edge.lettered(0);
        Edge.due("give(0, 1, 0), x is b", x.give(0, 1, 0), 1);
        Edge.due("ofObject(0, 3)", x.ofObject(0, 3), 64);
        Edge.due("give(0, 1, 2), x has a NEAR LINK to b", x.give(0, 1, 2), 1);
        Edge.due("ofObject(2, 3)", x.ofObject(2, 3), 64);
        Edge.due("weight(0, 2)", x.weight(0, 2), 0);
        Edge.due("letter(0, 2)", x.letter(0, 2), 64);
        Edge.due("letter(1, 2)", x.letter(1, 2), 64);
        for (int sent = 3; sent <= 60; sent++) {
            Edge.due("give(0, 3, 0)", x.give(0, 3, 0), 1);
            Edge.due("ofObject(0, 3)", x.ofObject(0, 3), 64 * (sent - 1));
        }
        Edge.due("weight(0, 3), nothing is SPLIT", x.weight(0, 3), 64);
    }

    private static void grantedFromElsewhere() {
        LostHosts x = Edge.with("01R2R1R");
        Edge.links(x, "01 02 03");
        Edge.due("give(0, 1, 2), on three HOSTS", x.give(0, 1, 2), 1);
        Edge.due("letter(0, 2)", x.letter(0, 2), 32);
        Edge.due("weight(0, 2)", x.weight(0, 2), 32);
        Edge.due("ofObject(2, 3)", x.ofObject(2, 3), 64);
        Edge.due("give(0, 1, 3), a is on the HOST of b", x.give(0, 1, 3), 1);
        Edge.due("letter(1, 2)", x.letter(1, 2), 32);
        Edge.due("weight(0, 3)", x.weight(0, 3), 32);
        Edge.due("ofObject(3, 3)", x.ofObject(3, 3), 64);
        Edge.due("weight(1, 3), it comes no sooner", x.weight(1, 3), NONE);
    }

    private static void filledAtOne() {
        LostHosts x = Edge.splitOff(6);
        Edge.due("weight(0, 2)", x.weight(0, 2), 1);
        Edge.due("many(6)", x.many(6), 0);
        Edge.due("ofObject(2, 3)", x.ofObject(2, 3), 64);
        Edge.due("give(0, 1, 2)", x.give(0, 1, 2), 0);
        Edge.due("weight(0, 2)", x.weight(0, 2), 33);
        Edge.due("weight(1, 2)", x.weight(1, 2), 63 + 32);
        Edge.due("ofObject(2, 3)", x.ofObject(2, 3), 128);
        Edge.due("many(6)", x.many(6), 1);
        Edge.due("many(7)", x.many(7), 1);
    }

    private static void notFilledAtTwo() {
        LostHosts x = Edge.splitOff(5);
        Edge.due("weight(0, 2)", x.weight(0, 2), 2);
        Edge.due("give(0, 1, 2)", x.give(0, 1, 2), 0);
        Edge.due("weight(0, 2)", x.weight(0, 2), 1);
        Edge.due("weight(1, 2)", x.weight(1, 2), 63);
        Edge.due("ofObject(2, 3)", x.ofObject(2, 3), 64);
        Edge.due("many(6)", x.many(6), 0);
    }

    private static void filledForGrant() {
        LostHosts x = Edge.lettered(0);
        int[] weights = {32, 16, 8, 4, 2, 1, 32};
        for (int k = 0; k < weights.length; k++) {
            Edge.due("many(6)", x.many(6), 0);
            Edge.due("give(0, 1, 3)", x.give(0, 1, 3), 1);
            Edge.due("letter(" + k + ", 2)", x.letter(k, 2), weights[k]);
        }
        Edge.due("weight(0, 3)", x.weight(0, 3), 33);
        Edge.due("ofObject(3, 3)", x.ofObject(3, 3), 128);
        Edge.due("many(6)", x.many(6), 1);
        Edge.due("many(7)", x.many(7), 1);
    }

    private static void oddWeights() {
        LostHosts x = Edge.splitOff(7);
        int[] left = {33, 17, 9, 5, 3, 2, 1, 33, 17};
        int given = 63 + 32;
        for (int i = 1; i < left.length; i++) {
            given += (left[i - 1] == 1 ? 65 : left[i - 1]) - left[i];
            Edge.due("give(0, 1, 2)", x.give(0, 1, 2), 0);
            Edge.due("weight(0, 2)", x.weight(0, 2), left[i]);
            Edge.due("weight(1, 2)", x.weight(1, 2), given);
        }
        Edge.due("many(6)", x.many(6), 2);
        Edge.due("ofObject(2, 3)", x.ofObject(2, 3), 192);
    }

    private static void ageAsGiven() {
        LostHosts x = Edge.splitOff(0);
        x.root(2, false);
        x.collect(1);
        Edge.due("ofObject(2, 4)", x.ofObject(2, 4), 1);
        Edge.due("give(0, 1, 2)", x.give(0, 1, 2), 0);
        Edge.due("ofObject(2, 4), as a FAR LINK comes", x.ofObject(2, 4), 0);
        x.collect(1);
        Edge.due("give(0, 1, 2), more WEIGHT", x.give(0, 1, 2), 0);
        Edge.due("ofObject(2, 4), as no LINK comes", x.ofObject(2, 4), 1);
        LostHosts y = Edge.with("0R001");
        Edge.links(y, "01 02 30");
        y.root(0, false);
        y.collect(0);
        Edge.due("old(0, 1)", y.old(0, 1), 0b111);
        Edge.due("give(0, 1, 2)", y.give(0, 1, 2), 0);
        Edge.due("old(0, 1), as a NEAR LINK to 2 comes", y.old(0, 1), 0b011);
    }

    /** The two OBJECTS, their LINK, then 254 GRANTS that arrive: 511 calls, and the 512th tells. */
    private static void weightOf512Calls() {
        LostHosts x = Edge.with("01R");
        x.link(0, 1);
        for (int i = 0; i < 254; i++) {
            Edge.due("give(0, 1, 0)", x.give(0, 1, 0), 1);
            Edge.due("deliver(0)", x.deliver(0), 0);
        }
        Edge.due("weight(1, 0)", x.weight(1, 0), 254 * 64);
    }

    private static void promise8Refusals() {
        Edge.test(8, "UNKNOWN: x, a, b", EdgesOfLetters::giveOfNoObject);
        Edge.test(8, "STATE: one is GONE", EdgesOfLetters::giveOfGone);
        Edge.test(8, "a is x or b", EdgesOfLetters::giveToXOrB);
        Edge.test(8, "no LINK leads from x to a, none from x to b (but x may be b)", EdgesOfLetters::giveWithoutLinks);
        Edge.test(8, "FULL: there are 60 LETTERS (and one would be sent).", EdgesOfLetters::giveAtSixty);
        Edge.test(8, "FULL: there are 60 LETTERS (and one would be sent).", EdgesOfLetters::giveWithNoLetterAtSixty);
        Edge.test(8, "FULL: there are 60 LETTERS (and one would be sent).", EdgesOfLetters::giveBeyondSixty);
        Edge.test(8, "they change nothing", EdgesOfLetters::nothingFilledWhenFull);
        Edge.test(8, "of a call's line the first that fits is answered, in the order told there",
            EdgesOfLetters::giveRefusalsInOrder);
    }

    private static void giveOfNoObject() {
        for (int n : Edge.noObjects(7)) {
            Edge.unchanged("give(" + n + ", 1, 2)", Edge::busy, x -> x.give(n, 1, 2), UNKNOWN);
            Edge.unchanged("give(0, " + n + ", 2)", Edge::busy, x -> x.give(0, n, 2), UNKNOWN);
            Edge.unchanged("give(0, 1, " + n + ")", Edge::busy, x -> x.give(0, 1, n), UNKNOWN);
        }
        Edge.unchanged("give(10, 9, 8), ten OBJECTS", Edge::ten, x -> x.give(10, 9, 8), UNKNOWN);
        Edge.unchanged("give(9, 10, 8), ten OBJECTS", Edge::ten, x -> x.give(9, 10, 8), UNKNOWN);
        Edge.unchanged("give(9, 8, 10), ten OBJECTS", Edge::ten, x -> x.give(9, 8, 10), UNKNOWN);
    }

    /** On three HOSTS 0, 1, 2, with LINKS from 0 to 1 and 2, from 1 to 2; one HOST DIES. */
    private static LostHosts linkedUntil(int dying) {
        LostHosts x = Edge.with("0R1R2R");
        Edge.links(x, "01 02 12");
        x.kill(dying);
        return x;
    }

    private static void giveOfGone() {
        Edge.unchanged("give(0, 1, 2), x is GONE", () -> linkedUntil(0), x -> x.give(0, 1, 2), STATE);
        Edge.unchanged("give(0, 1, 2), a is GONE", () -> linkedUntil(1), x -> x.give(0, 1, 2), STATE);
        Edge.unchanged("give(0, 1, 2), b is GONE", () -> linkedUntil(2), x -> x.give(0, 1, 2), STATE);
        Edge.unchanged("give(0, 1, 0), x, that is b, is GONE", () -> linkedUntil(0), x -> x.give(0, 1, 0), STATE);
        Edge.unchanged("give(0, 1, 0), a is GONE", () -> linkedUntil(1), x -> x.give(0, 1, 0), STATE);
        Edge.due("give(0, 1, 2), none is GONE", linkedUntil(3).give(0, 1, 2), 1);
        Edge.due("give(0, 1, 0), none is GONE", linkedUntil(3).give(0, 1, 0), 1);
    }

    private static void giveToXOrB() {
        Edge.unchanged("give(0, 0, 1), a is x", Edge::busy, x -> x.give(0, 0, 1), STATE);
        Edge.unchanged("give(0, 1, 1), a is b, FAR", Edge::busy, x -> x.give(0, 1, 1), STATE);
        Edge.unchanged("give(0, 2, 2), a is b, NEAR", Edge::busy, x -> x.give(0, 2, 2), STATE);
        Edge.unchanged("give(0, 0, 0), all are one", Edge::busy, x -> x.give(0, 0, 0), STATE);
    }

    private static void giveWithoutLinks() {
        LostHosts x = Edge.with("0R1R2R");
        Edge.due("give(0, 1, 2), no LINKS", x.give(0, 1, 2), STATE);
        Edge.due("give(0, 1, 0), no LINKS, x is b", x.give(0, 1, 0), STATE);
        Edge.links(x, "01 12 10 20 21");
        Edge.due("give(0, 1, 2), none from x to b", x.give(0, 1, 2), STATE);
        Edge.due("give(0, 2, 1), none from x to a", x.give(0, 2, 1), STATE);
        Edge.due("give(0, 2, 0), none from x to a, x is b", x.give(0, 2, 0), STATE);
        Edge.due("many(1)", x.many(1), 0);
        Edge.due("give(0, 1, 0), x is b", x.give(0, 1, 0), 1);
        Edge.links(x, "02");
        Edge.due("give(0, 1, 2), both", x.give(0, 1, 2), 1);
        Edge.due("unlink(0, 1)", x.unlink(0, 1), 1);
        Edge.due("give(0, 1, 2), none from x to a any more", x.give(0, 1, 2), STATE);
        Edge.due("give(0, 1, 0), none from x to a any more", x.give(0, 1, 0), STATE);
        LostHosts y = Edge.with("000");
        Edge.due("give(0, 1, 2), on one HOST", y.give(0, 1, 2), STATE);
        Edge.due("give(0, 1, 0), on one HOST", y.give(0, 1, 0), STATE);
        Edge.links(y, "01");
        Edge.due("give(0, 1, 2), on one HOST, none from x to b", y.give(0, 1, 2), STATE);
        Edge.due("give(0, 1, 0), on one HOST, x is b", y.give(0, 1, 0), 0);
    }

    private static void giveAtSixty() {
        LostHosts x = Edge.lettered(59);
        Edge.due("give(0, 1, 2), 59 LETTERS", x.give(0, 1, 2), 1);
        Edge.due("many(1)", x.many(1), 60);
        Edge.due("give(0, 1, 2), 60 LETTERS", x.give(0, 1, 2), FULL);
        Edge.unchanged("give(0, 1, 0), x is b", Edge::full, y -> y.give(0, 1, 0), FULL);
        Edge.unchanged("give(0, 1, 2), x on the HOST of b", Edge::full, y -> y.give(0, 1, 2), FULL);
        Edge.unchanged("give(0, 1, 3), SPLIT", Edge::full, y -> y.give(0, 1, 3), FULL);
        Edge.due("deliver(59)", x.deliver(59), 0);
        Edge.due("give(0, 1, 3), 59 LETTERS again", x.give(0, 1, 3), 1);
    }

    private static void giveWithNoLetterAtSixty() {
        LostHosts x = Edge.full();
        Edge.due("give(0, 2, 1), SPLIT", x.give(0, 2, 1), 0);
        Edge.due("weight(2, 1)", x.weight(2, 1), 32);
        Edge.due("give(0, 2, 0), NEAR", x.give(0, 2, 0), 0);
        Edge.due("weight(2, 0)", x.weight(2, 0), 0);
        Edge.due("many(1)", x.many(1), 60);
    }

    private static void giveBeyondSixty() {
        Edge.unchanged("give(0, 1, 0), 62 LETTERS", EdgesOfObjects::beyondSixty, x -> x.give(0, 1, 0), FULL);
        Edge.unchanged("give(0, 1, 3), 62 LETTERS", EdgesOfObjects::beyondSixty, x -> x.give(0, 1, 3), FULL);
        LostHosts x = EdgesOfObjects.beyondSixty();
        for (int letters = 62; letters >= 60; letters--) {
            Edge.due("give(0, 1, 3), " + letters + " LETTERS", x.give(0, 1, 3), FULL);
            Edge.due("deliver(0)", x.deliver(0), 0);
        }
        Edge.due("give(0, 1, 3), 59 LETTERS", x.give(0, 1, 3), 1);
    }

    /** 60 LETTERS, and the LINK from 0 to 3 has WEIGHT 1. */
    private static LostHosts fullAtWeightOne() {
        LostHosts x = Edge.lettered(54);
        for (int i = 0; i < 6; i++) {
            Edge.due("setting up: give(0, 1, 3)", x.give(0, 1, 3), 1);
        }
        return x;
    }

    private static void nothingFilledWhenFull() {
        Edge.due("weight(0, 3)", fullAtWeightOne().weight(0, 3), 1);
        Edge.unchanged("give(0, 1, 3), WEIGHT 1, 60 LETTERS", EdgesOfLetters::fullAtWeightOne,
            x -> x.give(0, 1, 3), FULL);
        LostHosts x = fullAtWeightOne();
        Edge.due("give(0, 2, 3), WEIGHT 1, no LETTER", x.give(0, 2, 3), 0);
        Edge.due("weight(0, 3)", x.weight(0, 3), 33);
        Edge.due("many(6)", x.many(6), 1);
    }

    private static void giveRefusalsInOrder() {
        Edge.unchanged("give(4, 4, 7), UNKNOWN and GONE", Edge::busy, x -> x.give(4, 4, 7), UNKNOWN);
        Edge.unchanged("give(7, 7, 7), UNKNOWN, all are one", Edge::busy, x -> x.give(7, 7, 7), UNKNOWN);
        Edge.unchanged("give(0, 1, 4), UNKNOWN and FULL", Edge::full, x -> x.give(0, 1, 4), UNKNOWN);
        Edge.unchanged("give(0, 1, 1), STATE and FULL", Edge::full, x -> x.give(0, 1, 1), STATE);
        Edge.unchanged("give(2, 1, 2), no LINK and FULL", Edge::full, x -> x.give(2, 1, 2), STATE);
    }

    private static void promise9() {
        Edge.test(9, "The k-th LETTER arrives (and is no more): 0 it was a GRANT, 1 a RETURN.",
            EdgesOfLetters::firstMiddleLast);
        Edge.test(9, "LETTERS, in the order in which they were sent, the first is 0", EdgesOfLetters::othersMoveUp);
        Edge.test(9, "UNKNOWN (there is no such HOST, OBJECT, LETTER)", EdgesOfLetters::deliverNoLetter);
        Edge.test(9, "UNKNOWN (there is no such HOST, OBJECT, LETTER)", EdgesOfLetters::deliverLastOfSixty);
        Edge.test(9, "A RETURN arrives: OUT of b is so much less (nothing, if b is GONE).",
            EdgesOfLetters::returnArrives);
        Edge.test(9, "A RETURN arrives: OUT of b is so much less (nothing, if b is GONE).",
            EdgesOfLetters::returnOfGone);
    }

    /** LETTERS: GRANTS of 2 and of 3 to 1, a RETURN of 3, a GRANT of 0 to 1. */
    private static LostHosts fourLetters() {
        LostHosts x = Edge.lettered(0);
        Edge.due("setting up: give(0, 1, 2)", x.give(0, 1, 2), 1);
        Edge.due("setting up: give(0, 1, 3)", x.give(0, 1, 3), 1);
        Edge.due("setting up: unlink(0, 3)", x.unlink(0, 3), 1);
        Edge.due("setting up: give(0, 1, 0)", x.give(0, 1, 0), 1);
        return x;
    }

    private static void firstMiddleLast() {
        int[] answers = {0, 0, 1, 0};
        int[] linked = {0b0100, 0b1000, 0, 0b0001};
        for (int k = 0; k < 4; k++) {
            LostHosts x = fourLetters();
            Edge.due("deliver(" + k + ")", x.deliver(k), answers[k]);
            Edge.due("many(1)", x.many(1), 3);
            Edge.due("ofObject(1, 5)", x.ofObject(1, 5), linked[k]);
        }
        Edge.due("weight(1, 2)", fourLetters().weight(1, 2), NONE);
    }

    private static void othersMoveUp() {
        int[] about = {2, 3, 3, 0};
        for (int k = 0; k < 4; k++) {
            LostHosts x = fourLetters();
            x.deliver(k);
            for (int i = 0; i < 3; i++) {
                int was = i < k ? i : i + 1;
                Edge.due("letter(" + i + ", 3) after deliver(" + k + ")", x.letter(i, 3), about[was]);
                Edge.due("letter(" + i + ", 0) after deliver(" + k + ")", x.letter(i, 0), was == 2 ? 1 : 0);
            }
            Edge.due("letter(3, 3) after deliver(" + k + ")", x.letter(3, 3), UNKNOWN);
            x.give(0, 1, 2);
            Edge.due("letter(3, 3), sent after deliver(" + k + ")", x.letter(3, 3), 2);
        }
    }

    private static void deliverNoLetter() {
        for (int k : new int[] {-1, 3, 4, 60, 150, Edge.LEAST, Edge.MOST}) {
            Edge.unchanged("deliver(" + k + "), three LETTERS", Edge::busy, x -> x.deliver(k), UNKNOWN);
        }
        Edge.unchanged("deliver(0), no LETTERS", Edge::ten, x -> x.deliver(0), UNKNOWN);
        LostHosts x = fourLetters();
        for (int left = 4; left > 0; left--) {
            Edge.due("deliver(" + left + ")", x.deliver(left), UNKNOWN);
            Edge.due("deliver(" + (left - 1) + ")", x.deliver(left - 1), left == 3 ? 1 : 0);
        }
        Edge.due("deliver(0), all have arrived", x.deliver(0), UNKNOWN);
    }

    private static void deliverLastOfSixty() {
        Edge.unchanged("deliver(60), 60 LETTERS", Edge::full, x -> x.deliver(60), UNKNOWN);
        LostHosts x = Edge.full();
        for (int k = 59; k >= 0; k--) {
            Edge.due("deliver(" + k + ")", x.deliver(k), 0);
            Edge.due("weight(1, 0)", x.weight(1, 0), 64 * (60 - k));
        }
        LostHosts y = EdgesOfObjects.beyondSixty();
        Edge.due("deliver(62), 62 LETTERS", y.deliver(62), UNKNOWN);
        Edge.due("deliver(61), 62 LETTERS", y.deliver(61), 1);
        Edge.due("deliver(60), 61 LETTERS", y.deliver(60), 1);
        Edge.due("deliver(60), 60 LETTERS", y.deliver(60), UNKNOWN);
    }

    private static void returnArrives() {
        LostHosts x = Edge.splitOff(6);
        x.unlink(0, 2);
        x.unlink(1, 2);
        Edge.due("ofObject(2, 3)", x.ofObject(2, 3), 64);
        Edge.due("deliver(0), of WEIGHT 1", x.deliver(0), 1);
        Edge.due("ofObject(2, 3)", x.ofObject(2, 3), 63);
        Edge.due("deliver(0), of WEIGHT 63", x.deliver(0), 1);
        Edge.due("ofObject(2, 3)", x.ofObject(2, 3), 0);
        Edge.due("many(7)", x.many(7), 1);
    }

    /** A RETURN of 1 is under way; 1 is GONE, by a TRACE of it or as its HOST DIES. */
    private static LostHosts returnedTooLate(boolean byTrace) {
        LostHosts x = Edge.with("01R");
        x.link(0, 1);
        x.unlink(0, 1);
        x.root(1, false);
        Edge.due("setting up: GONE", byTrace ? x.trace(1) : x.kill(1), 1);
        return x;
    }

    private static void returnOfGone() {
        for (boolean byTrace : new boolean[] {true, false}) {
            LostHosts x = returnedTooLate(byTrace);
            Edge.due("ofObject(1, 3)", x.ofObject(1, 3), 64);
            Edge.due("deliver(0)", x.deliver(0), 1);
            Edge.due("ofObject(1, 3), nothing comes of it", x.ofObject(1, 3), 64);
            Edge.due("many(1)", x.many(1), 0);
        }
    }

    private static void promise9Grants() {
        Edge.test(9, "if the HOST it goes to is DEAD, or b is GONE, nothing comes of it.",
            EdgesOfLetters::grantToDeadHost);
        Edge.test(9, "if the HOST it goes to is DEAD, or b is GONE, nothing comes of it.",
            EdgesOfLetters::grantOfGone);
        Edge.test(9, "Else, if a is GONE: OUT of b is so much less, if a was on the HOST of b",
            EdgesOfLetters::grantToGoneOnHostOfB);
        Edge.test(9, "else a RETURN of all of it is sent.", EdgesOfLetters::grantToGoneElsewhere);
        Edge.test(9, "else a RETURN of all of it is sent.", EdgesOfLetters::grantToGoneAtSixty);
        Edge.test(9, "Else, if a is on the HOST of b: OUT of b is so much less, and a has a NEAR LINK to b",
            EdgesOfLetters::grantToHostOfB);
        Edge.test(9, "else the LINK of a to b has so much more (as above).", EdgesOfLetters::grantToElsewhere);
        Edge.test(9, "it is 0 also as a LINK to it comes", EdgesOfLetters::ageAsGrantArrives);
    }

    private static void grantToDeadHost() {
        LostHosts x = Edge.lettered(2);
        x.kill(1);
        Edge.due("deliver(1)", x.deliver(1), 0);
        Edge.due("deliver(0)", x.deliver(0), 0);
        Edge.due("many(1), no RETURN is sent", x.many(1), 0);
        Edge.due("ofObject(0, 3), OUT stays", x.ofObject(0, 3), 128);
        Edge.due("ofObject(0, 6)", x.ofObject(0, 6), 0);
        LostHosts y = Edge.with("01R1R");
        Edge.links(y, "01 02");
        Edge.due("give(0, 1, 2)", y.give(0, 1, 2), 1);
        y.kill(1);
        Edge.due("deliver(0), a and b were on the DEAD HOST", y.deliver(0), 0);
        Edge.due("ofObject(2, 3), OUT stays", y.ofObject(2, 3), 64);
        Edge.due("many(1)", y.many(1), 0);
    }

    private static void grantOfGone() {
        LostHosts x = Edge.with("01R2R");
        Edge.links(x, "01 02");
        Edge.due("give(0, 1, 2)", x.give(0, 1, 2), 1);
        x.kill(2);
        Edge.due("deliver(0), b is GONE", x.deliver(0), 0);
        Edge.due("weight(1, 2)", x.weight(1, 2), NONE);
        Edge.due("ofObject(2, 3), OUT stays", x.ofObject(2, 3), 64);
        Edge.due("many(1), no RETURN is sent", x.many(1), 0);
        LostHosts y = Edge.with("01R2R");
        Edge.links(y, "01 02");
        Edge.due("give(0, 1, 2)", y.give(0, 1, 2), 1);
        Edge.due("unlink(0, 1)", y.unlink(0, 1), 1);
        Edge.due("deliver(1)", y.deliver(1), 1);
        y.root(1, false);
        Edge.due("collect(1), a is GONE", y.collect(1), 1);
        y.kill(2);
        Edge.due("deliver(0), a and b are GONE", y.deliver(0), 0);
        Edge.due("many(1), no RETURN is sent", y.many(1), 0);
    }

    /** GRANTS to 1, that is GONE from HOST 1: of 2, on that HOST, with 32, 16, 8, and of 3 (HOST 2) with 32. */
    private static LostHosts grantsToGone() {
        LostHosts x = Edge.with("01R1R2R");
        Edge.links(x, "01 02 03");
        for (int i = 0; i < 3; i++) {
            Edge.due("setting up: give(0, 1, 2)", x.give(0, 1, 2), 1);
        }
        Edge.due("setting up: give(0, 1, 3)", x.give(0, 1, 3), 1);
        Edge.due("setting up: unlink(0, 1)", x.unlink(0, 1), 1);
        Edge.due("setting up: deliver(4)", x.deliver(4), 1);
        x.root(1, false);
        Edge.due("setting up: collect(1)", x.collect(1), 1);
        return x;
    }

    private static void grantToGoneOnHostOfB() {
        LostHosts x = grantsToGone();
        int[] out = {32, 16, 8};
        for (int o : out) {
            Edge.due("deliver(0)", x.deliver(0), 0);
            Edge.due("ofObject(2, 3)", x.ofObject(2, 3), o);
        }
        Edge.due("many(1), no RETURN is sent", x.many(1), 1);
        Edge.due("weight(1, 2)", x.weight(1, 2), NONE);
        Edge.due("many(2)", x.many(2), 0);
        Edge.due("many(7)", x.many(7), 1);
    }

    private static void grantToGoneElsewhere() {
        LostHosts x = grantsToGone();
        Edge.due("deliver(3)", x.deliver(3), 0);
        Edge.due("many(1), a RETURN is sent", x.many(1), 4);
        int[] letter = {1, 2, 32, 3, NONE};
        for (int what = 0; what < 5; what++) {
            Edge.due("letter(3, " + what + ")", x.letter(3, what), letter[what]);
        }
        Edge.due("ofObject(3, 3), till it arrives", x.ofObject(3, 3), 64);
        Edge.due("weight(1, 3)", x.weight(1, 3), NONE);
        Edge.due("deliver(0), another", x.deliver(0), 0);
        Edge.due("letter(2, 0), the RETURN is the last one", x.letter(2, 0), 1);
        Edge.due("deliver(2)", x.deliver(2), 1);
        Edge.due("ofObject(3, 3)", x.ofObject(3, 3), 32);
        Edge.due("many(7)", x.many(7), 1);
    }

    /** The first of 60 LETTERS is a GRANT of 0 to 1, that is GONE. */
    private static void grantToGoneAtSixty() {
        LostHosts x = Edge.with("0R1R2R");
        Edge.links(x, "01 02");
        Edge.due("give(0, 1, 0)", x.give(0, 1, 0), 1);
        Edge.due("unlink(0, 1)", x.unlink(0, 1), 1);
        Edge.due("deliver(1)", x.deliver(1), 1);
        x.root(1, false);
        Edge.due("collect(1)", x.collect(1), 1);
        for (int i = 0; i < 59; i++) {
            Edge.due("give(0, 2, 0)", x.give(0, 2, 0), 1);
        }
        Edge.due("many(1)", x.many(1), 60);
        Edge.due("deliver(0)", x.deliver(0), 0);
        Edge.due("many(1), 59 and the RETURN", x.many(1), 60);
        Edge.due("letter(59, 0), the last one", x.letter(59, 0), 1);
        Edge.due("letter(59, 2)", x.letter(59, 2), 64);
        Edge.due("give(0, 2, 0)", x.give(0, 2, 0), FULL);
    }

    private static void grantToHostOfB() {
        LostHosts x = Edge.with("01R1R");
        Edge.links(x, "01 02");
        for (int i = 0; i < 6; i++) {
            Edge.due("give(0, 1, 2)", x.give(0, 1, 2), 1);
        }
        Edge.due("unlink(0, 2)", x.unlink(0, 2), 1);
        int[] out = {32, 16, 8, 4, 2, 1};
        for (int o : out) {
            Edge.due("deliver(0)", x.deliver(0), 0);
            Edge.due("weight(1, 2), NEAR", x.weight(1, 2), 0);
            Edge.due("ofObject(2, 3)", x.ofObject(2, 3), o);
        }
        Edge.due("many(2), one LINK", x.many(2), 1);
        Edge.due("deliver(0), the RETURN of 1", x.deliver(0), 1);
        Edge.due("ofObject(2, 3)", x.ofObject(2, 3), 0);
        Edge.due("many(7)", x.many(7), 1);
    }

    private static void grantToElsewhere() {
        LostHosts x = Edge.lettered(0);
        for (int i = 0; i < 6; i++) {
            Edge.due("give(0, 1, 3)", x.give(0, 1, 3), 1);
        }
        Edge.due("deliver(5), of WEIGHT 1: it comes with that", x.deliver(5), 0);
        Edge.due("weight(1, 3)", x.weight(1, 3), 1);
        Edge.due("deliver(0), of WEIGHT 32: so much more", x.deliver(0), 0);
        Edge.due("weight(1, 3)", x.weight(1, 3), 33);
        Edge.due("ofObject(3, 3), OUT stays", x.ofObject(3, 3), 64);
        Edge.due("many(3)", x.many(3), 3);
        Edge.due("many(7)", x.many(7), 1);
        LostHosts y = Edge.full();
        y.settle();
        Edge.due("weight(1, 0), of 60 GRANTS", y.weight(1, 0), 3840);
        Edge.due("ofObject(0, 3)", y.ofObject(0, 3), 3840);
    }

    private static void ageAsGrantArrives() {
        LostHosts x = Edge.lettered(2);
        x.collect(0);
        Edge.due("ofObject(0, 4)", x.ofObject(0, 4), 1);
        Edge.due("deliver(0)", x.deliver(0), 0);
        Edge.due("ofObject(0, 4), as a FAR LINK comes", x.ofObject(0, 4), 0);
        x.collect(0);
        Edge.due("deliver(0)", x.deliver(0), 0);
        Edge.due("ofObject(0, 4), as no LINK comes", x.ofObject(0, 4), 1);
        LostHosts y = Edge.with("01R1R");
        Edge.links(y, "01 02");
        y.root(2, false);
        y.collect(1);
        Edge.due("give(0, 1, 2)", y.give(0, 1, 2), 1);
        Edge.due("ofObject(2, 4), it is under way", y.ofObject(2, 4), 1);
        Edge.due("deliver(0)", y.deliver(0), 0);
        Edge.due("ofObject(2, 4), as a NEAR LINK comes", y.ofObject(2, 4), 0);
    }

    private static void promise10() {
        Edge.test(10, "0 what it is (0 GRANT, 1 RETURN), 1 the HOST it goes to, 2 its WEIGHT, 3 the OBJECT b, "
            + "4 the OBJECT a (NONE: a RETURN).", EdgesOfLetters::firstAndLastOfLetter);
        Edge.test(10, "UNKNOWN; OUTSIDE.", EdgesOfLetters::letterOutside);
        Edge.test(10, "UNKNOWN (there is no such HOST, OBJECT, LETTER)", EdgesOfLetters::noSuchLetter);
        Edge.test(10, "of a call's line the first that fits is answered, in the order told there",
            EdgesOfLetters::letterRefusalsInOrder);
        Edge.test(10, "LETTERS, in the order in which they were sent, the first is 0", EdgesOfLetters::sixtyInOrder);
        Edge.test(10, "goes to the HOST of a; a RETURN of a WEIGHT of b goes to the HOST of b.",
            EdgesOfLetters::whereLettersGo);
    }

    private static void firstAndLastOfLetter() {
        int[][] letters = {{0, 1, 64, 2, 1}, {0, 1, 32, 3, 1}, {1, 1, 64, 1, NONE}};
        for (int k = 0; k < 3; k++) {
            for (int what = 0; what < 5; what++) {
                int letter = k;
                int asked = what;
                Edge.unchanged("letter(" + k + ", " + what + ")", Edge::busy, x -> x.letter(letter, asked),
                    letters[k][what]);
            }
        }
    }

    private static void letterOutside() {
        for (int what : new int[] {-1, 5, 32, 36, Edge.LEAST, Edge.MOST}) {
            Edge.unchanged("letter(0, " + what + "), a GRANT", Edge::busy, x -> x.letter(0, what), OUTSIDE);
            Edge.unchanged("letter(2, " + what + "), a RETURN", Edge::busy, x -> x.letter(2, what), OUTSIDE);
        }
    }

    private static void noSuchLetter() {
        for (int k : new int[] {-1, 3, 4, 60, 150, Edge.LEAST, Edge.MOST}) {
            Edge.unchanged("letter(" + k + ", 0), three LETTERS", Edge::busy, x -> x.letter(k, 0), UNKNOWN);
        }
        Edge.unchanged("letter(60, 4), 60 LETTERS", Edge::full, x -> x.letter(60, 4), UNKNOWN);
        Edge.unchanged("letter(0, 0), no LETTERS", Edge::ten, x -> x.letter(0, 0), UNKNOWN);
    }

    private static void letterRefusalsInOrder() {
        Edge.unchanged("letter(3, 5)", Edge::busy, x -> x.letter(3, 5), UNKNOWN);
        Edge.unchanged("letter(-1, -1)", Edge::busy, x -> x.letter(-1, -1), UNKNOWN);
        Edge.due("letter(0, 5), no LETTERS", new LostHosts().letter(0, 5), UNKNOWN);
    }

    private static void sixtyInOrder() {
        LostHosts x = Edge.lettered(0);
        for (int k = 0; k < 60; k++) {
            Edge.due("give", x.give(0, 1, k % 3 == 0 ? 2 : 0), 1);
        }
        for (int k = 0; k < 60; k++) {
            Edge.due("letter(" + k + ", 3)", x.letter(k, 3), k % 3 == 0 ? 2 : 0);
        }
        Edge.due("letter(60, 3)", x.letter(60, 3), UNKNOWN);
    }

    private static void whereLettersGo() {
        LostHosts x = Edge.with("03R01R");
        Edge.links(x, "01 02 03");
        x.give(0, 1, 2);
        x.give(0, 1, 3);
        x.unlink(0, 3);
        x.give(0, 1, 0);
        x.unlink(0, 1);
        int[] host = {3, 3, 1, 3, 3};
        for (int k = 0; k < 5; k++) {
            Edge.due("letter(" + k + ", 1)", x.letter(k, 1), host[k]);
        }
        x.kill(3);
        Edge.due("letter(0, 1), the HOST is DEAD", x.letter(0, 1), 3);
        Edge.due("letter(4, 1), the HOST is DEAD", x.letter(4, 1), 3);
        Edge.due("letter(0, 4), a is GONE", x.letter(0, 4), 1);
        x.kill(0);
        Edge.due("letter(3, 3), b is GONE", x.letter(3, 3), 0);
        Edge.due("letter(3, 2), b is GONE", x.letter(3, 2), 64);
    }
}

/** Terms, step 4 of a cycle: hits, requests and room in the cache. */
public final class CoreTest {
    private static final int LOAD = Programs.LOAD;
    private static final int STORE = Programs.STORE;
    private static final int SWAP = Programs.SWAP;
    private static final int I = CacheLook.I;
    private static final int ISD = CacheLook.ISD;
    private static final int IMAD = CacheLook.IMAD;
    private static final int S = CacheLook.S;
    private static final int SMAD = CacheLook.SMAD;
    private static final int M = CacheLook.M;
    private static final int MIA = CacheLook.MIA;
    private static final int SIA = CacheLook.SIA;

    public static void main(String[] args) {
        withoutOperationsNothingIsDone();
        onlyThePresentDelayFalls();
        loadsHitInSAndM();
        storesAndSwapsHitInMAlone();
        aMissAsksOnceAndWaits();
        theCoreRestsInTheCycleOfItsData();
        twoEvenAndTwoOddLinesAreIn();
        aThirdLineOfAKindMakesOneGo();
        theLeastLatelyUsedGoesFromM();
        theLeastLatelyUsedGoesFromS();
        aHitMakesALineUsedLately();
        neverMoreThanTwoOfAKind();
        nothingWhileOneIsGoing();
        linesOfTheOtherKindStay();
        theRoomIsUsedInTheCycleOfDone();
        Check.end();
    }

    private static void withoutOperationsNothingIsDone() {
        Guarded x = new Guarded(1, 2);
        x.operation(3, LOAD, 3, 0, 0);
        x.run(100);
        Check.due("the one operation", x.done(3), 1);
        Check.due("GETS and DATA", x.count(0), 2);
        x.run(100);
        Check.due("no other one", x.done(3), 1);
        Check.due("nothing more is sent", x.count(0), 2);
        Check.due("used once", x.cache(3, 3, 3), 7);
    }

    /** Three hits with a delay of 50 each: the delays come one behind the other. */
    private static void onlyThePresentDelayFalls() {
        Guarded x = new Guarded(4, 2);
        x.operation(0, LOAD, 0, 0, 0);
        x.operation(0, LOAD, 0, 0, 50);
        x.operation(0, LOAD, 0, 0, 50);
        x.operation(0, LOAD, 0, 0, 1);
        x.run(56);
        Check.due("done(0)", x.done(0), 1);
        x.run(1);
        Check.due("done(0)", x.done(0), 2);
        x.run(50);
        Check.due("done(0)", x.done(0), 2);
        x.run(1);
        Check.due("done(0)", x.done(0), 3);
        x.run(1);
        Check.due("done(0)", x.done(0), 3);
        x.run(1);
        Check.due("done(0)", x.done(0), 4);
    }

    private static void loadsHitInSAndM() {
        for (int kind = LOAD; kind <= STORE; kind++) {
            Guarded x = new Guarded(4, 2);
            x.operation(0, kind, 0, 9, 0);
            x.operation(0, LOAD, 0, 0, 0);
            x.run(6);
            Check.due("the state", x.cache(0, 0, 0), kind == LOAD ? S : M);
            x.run(1);
            Check.due("the hit is done", x.done(0), 2);
            Check.due("its result", x.result(0, 1), kind == LOAD ? 0 : 9);
            Check.due("used", x.cache(0, 0, 3), 7);
            Check.due("nothing is sent", x.count(0), 2);
        }
    }

    private static void storesAndSwapsHitInMAlone() {
        for (int kind = STORE; kind <= SWAP; kind++) {
            Guarded x = new Guarded(4, 2);
            x.operation(0, LOAD, 0, 0, 0);
            x.operation(0, kind, 0, 8, 0);
            x.operation(0, kind, 0, 9, 0);
            x.run(7);
            CacheLook.due("no hit in S", x, 0, 0, SMAD, 0, 0, 6);
            Check.due("GETM is sent", x.count(0), 3);
            x.run(5);
            CacheLook.due("done by DATA", x, 0, 0, M, 8, 0, 12);
            x.run(1);
            CacheLook.due("a hit in M", x, 0, 0, M, 9, 0, 13);
            Check.due("nothing is sent", x.count(0), 4);
            Check.due("the result", x.result(0, 2), kind == SWAP ? 8 : 0);
        }
    }

    private static void aMissAsksOnceAndWaits() {
        int[] states = {ISD, IMAD, IMAD};
        for (int kind = LOAD; kind <= SWAP; kind++) {
            Guarded x = new Guarded(1, 5);
            x.operation(5, kind, 0, 9, 0);
            x.run(1);
            Check.due("asked", x.cache(5, 0, 0), states[kind]);
            x.run(4);
            Check.due("the request is under way, alone", x.count(0), 1);
            Check.due("asked still", x.cache(5, 0, 0), states[kind]);
            x.run(13);
            Check.due("the request and its DATA", x.count(0), 2);
            Check.due("DATA comes in the next cycle", x.done(5), 0);
            x.run(1);
            Check.due("done", x.done(5), 1);
        }
    }

    /** The next request goes a cycle behind DATA. */
    private static void theCoreRestsInTheCycleOfItsData() {
        Guarded x = new Guarded(4, 2);
        x.operation(0, LOAD, 0, 0, 0);
        x.operation(0, LOAD, 6, 0, 1);
        x.run(6);
        Check.due("done(0)", x.done(0), 1);
        x.run(1);
        Check.due("the delay falls in the next cycle", x.cache(0, 6, 0), I);
        x.run(1);
        Check.due("asked behind the delay", x.cache(0, 6, 0), ISD);
        Guarded y = new Guarded(4, 2);
        y.operation(0, LOAD, 0, 0, 0);
        y.operation(0, LOAD, 6, 0, 0);
        y.run(6);
        Check.due("not asked in the cycle of DATA", y.cache(0, 6, 0), I);
        y.run(1);
        Check.due("asked in the next cycle", y.cache(0, 6, 0), ISD);
    }

    private static Guarded loaded(int... lines) {
        Guarded x = new Guarded(4, 2);
        for (int l : lines) {
            x.operation(0, LOAD, l, 0, 0);
        }
        x.run(100);
        Check.due("all are loaded", x.done(0), lines.length);
        return x;
    }

    private static void states(String where, Guarded x, int... want) {
        for (int l = 0; l < 8; l++) {
            Check.due(where + ": line " + l, x.cache(0, l, 0), want[l]);
        }
    }

    private static void twoEvenAndTwoOddLinesAreIn() {
        Guarded x = loaded(0, 1, 6, 7);
        states("none had to go", x, S, S, I, I, I, I, S, S);
        Check.due("GETS and DATA alone", x.count(0), 8);
    }

    private static void aThirdLineOfAKindMakesOneGo() {
        for (int kind = LOAD; kind <= SWAP; kind++) {
            Guarded x = loaded(0, 1, 6, 7);
            x.operation(0, kind, 2, 5, 0);
            x.run(1);
            states("an even one goes", x, SIA, S, I, I, I, I, S, S);
            x.run(50);
            states("an even one went", x, I, S, kind == LOAD ? S : M, I, I, I, S, S);
        }
        Guarded y = loaded(0, 1, 6, 7);
        y.operation(0, LOAD, 5, 0, 0);
        y.run(1);
        states("an odd one goes", y, S, SIA, I, I, I, I, S, S);
        y.run(50);
        states("an odd one went", y, S, I, I, I, I, S, S, S);
    }

    private static void theLeastLatelyUsedGoesFromM() {
        Guarded x = new Guarded(4, 2);
        x.operation(0, STORE, 6, 9, 0);
        x.operation(0, LOAD, 0, 0, 0);
        x.operation(0, LOAD, 2, 0, 0);
        x.run(13);
        states("the higher one was used first", x, S, I, I, I, I, I, MIA, I);
        Check.due("its value stays", x.cache(0, 6, 1), 9);
        x.run(30);
        HomeLook.due("PUTM", x, 6, HomeLook.I, 9, 0, 0);
    }

    private static void theLeastLatelyUsedGoesFromS() {
        Guarded x = new Guarded(4, 2);
        x.operation(0, LOAD, 6, 0, 0);
        x.operation(0, STORE, 0, 9, 0);
        x.operation(0, LOAD, 2, 0, 0);
        x.run(13);
        states("the higher one was used first", x, M, I, I, I, I, I, SIA, I);
        x.run(30);
        HomeLook.due("PUTS", x, 6, HomeLook.I, 0, 0, 0);
    }

    private static void aHitMakesALineUsedLately() {
        Guarded x = new Guarded(4, 2);
        x.operation(0, LOAD, 0, 0, 0);
        x.operation(0, LOAD, 6, 0, 0);
        x.operation(0, LOAD, 0, 0, 0);
        x.operation(0, LOAD, 2, 0, 0);
        x.run(13);
        Check.due("line 0 was used by the hit", x.cache(0, 0, 3), 13);
        x.run(1);
        states("line 6 goes", x, S, I, I, I, I, I, SIA, I);
    }

    /** Of all lines of one kind that a node has, in whatever state, there are two at the most. */
    private static void neverMoreThanTwoOfAKind() {
        for (int i = 0; i < 12; i++) {
            Guarded x = Programs.crowd(1 + i % 4, 2 + i % 3);
            int n = i % 6;
            int odd = i / 6;
            boolean wereTwo = false;
            while (x.callsLeft() >= 5) {
                x.run(7);
                int in = 0;
                for (int l = odd; l < 8; l += 2) {
                    in += x.cache(n, l, 0) == I ? 0 : 1;
                }
                Check.holds("two at the most", in <= 2);
                wereTwo |= in == 2;
            }
            Check.holds("two were in", wereTwo);
        }
    }

    /** Line 0 goes from cycle 101 on; PUTS, DONE, and nothing else until it is gone in cycle 105. */
    private static void nothingWhileOneIsGoing() {
        Guarded x = loaded(0, 6);
        x.operation(0, LOAD, 2, 0, 0);
        int[] sent = {5, 5, 6, 6};
        for (int i = 0; i < sent.length; i++) {
            int cycle = x.run(1);
            states("cycle " + cycle, x, SIA, I, I, I, I, I, S, I);
            Check.due("packets sent until cycle " + cycle, x.count(0), sent[i]);
        }
        x.run(1);
        states("line 0 is gone", x, I, I, ISD, I, I, I, S, I);
        Check.due("GETS is sent", x.count(0), 7);
    }

    private static void linesOfTheOtherKindStay() {
        Guarded x = loaded(1, 7, 0, 6, 2, 4);
        states("the odd ones were used before all even ones", x, I, S, S, I, S, I, I, S);
    }

    private static void theRoomIsUsedInTheCycleOfDone() {
        Guarded x = new Guarded(4, 2);
        x.operation(0, STORE, 0, 1, 0);
        x.operation(0, STORE, 6, 2, 0);
        x.operation(0, LOAD, 2, 0, 0);
        x.run(17);
        states("before DONE", x, MIA, I, I, I, I, I, M, I);
        x.run(1);
        states("DONE, and line 2 is asked for", x, I, I, ISD, I, I, I, M, I);
    }
}

/** Terms I, REFUSED: what is refused by which number, and which number comes first. */
public final class SentencesOfRefusal {
    private static final long LEAST = Books.LEAST;
    private static final long MOST = Books.MOST;
    private static final String ORDER = "then KEY (and the same call), then UNKNOWN, UNEVEN, REVERSED, OVER, FLOOR, FULL.";

    public static void main(String[] args) throws IllegalAccessException {
        SentenceTests.run(SentencesOfRefusal.class);
    }

    @Says(in = "Terms", words = "REFUSED by:")
    static void refusedCallChangesNothingAndItsKeyStaysFree() {
        Books x = Books.opened(-10, 0);
        x.hold(1, 0, 1).gives(2);
        x.leg(0, -50);
        x.leg(1, 50);
        String before = x.state();
        x.post(9).gives(-6);
        x.hold(9, 0, 50).gives(-6);
        x.capture(9, 2, 1, 2).gives(-2);
        x.reverse(9, 2).gives(-2);
        x.release(1).gives(-2);
        x.open(1).gives(-6);
        x.stillHasState(before);
        x.hold(9, 0, 1).gives(3);
    }

    @Says(in = "Terms", words = "-2 UNKNOWN: an ACCOUNT that is not there;")
    static void unknownAccountOfALeg() {
        Books x = Books.opened(LEAST, LEAST);
        x.postOf(1, 2, -1, 0, 1).gives(-2);
        x.postOf(1, 0, -1, 2, 1).gives(-2);
        x.postOf(1, 0, -1, 255, 2, 1, -1).gives(-2);
        x.open(LEAST).gives(2);
        x.postOf(1, 0, -1, 2, 1).gives(3);
    }

    @Says(in = "Terms", words = "-2 UNKNOWN: an ACCOUNT that is not there;")
    static void unknownAccountOfAHold() {
        Books x = Books.opened(LEAST);
        x.hold(1, 1, 1).gives(-2);
        x.hold(1, 255, 1).gives(-2);
        x.open(LEAST).gives(1);
        x.hold(1, 1, 1).gives(2);
    }

    @Says(in = "Terms", words = "-2 UNKNOWN: an ACCOUNT that is not there;")
    static void unknownAccountOfACapture() {
        Books x = Books.opened(LEAST);
        x.hold(1, 0, 1).gives(1);
        x.capture(2, 1, 1, 1).gives(-2);
        x.capture(2, 1, 255, 1).gives(-2);
        x.count(3).gives(1);
        x.open(0).gives(1);
        x.capture(2, 1, 1, 1).gives(3);
    }

    @Says(in = "Terms", words = "a HOLD's entry that is none,")
    static void entryThatIsNoHold() {
        Books x = ofAllKindsAndAHold();
        for (int i : new int[] {0, 2, 4, 6, 7, 8, 10, 199}) {
            x.release(i).gives(-2);
            x.capture(9, i, 0, 1).gives(-2);
        }
        x.release(9).gives(10);
    }

    @Says(in = "Terms", words = "or whose HOLD is gone;")
    static void holdThatIsGone() {
        Books x = ofAllKindsAndAHold();
        // 3 is released, 5 is captured
        for (int i : new int[] {3, 5}) {
            x.release(i).gives(-2);
            x.capture(9, i, 0, 1).gives(-2);
        }
        x.capture(9, 9, 0, 1).gives(10);
        x.release(9).gives(-2);
        x.capture(10, 9, 0, 1).gives(-2);
    }

    @Says(in = "Terms", words = "an entry that has no legs (of REVERSAL).")
    static void entryWithoutLegs() {
        Books x = ofAllKindsAndAHold();
        for (int i : new int[] {0, 3, 4, 5, 8, 9, 10, 199}) {
            x.reverse(9, i).gives(-2);
        }
        x.reverse(9, 6).gives(10);
        x.reverse(10, 7).gives(11);
    }

    @Says(in = "Terms", words = "-3 UNEVEN: the legs don't come to 0")
    static void unevenByOne() {
        Books x = Books.opened(LEAST, LEAST, LEAST);
        x.postOf(1, 0, -5, 1, 4).gives(-3);
        x.postOf(1, 0, -5, 1, 6).gives(-3);
        x.postOf(1, 0, 1).gives(-3);
        x.postOf(1, 0, -1).gives(-3);
        x.postOf(1, 0, 1, 0, 1).gives(-3);
        x.postOf(1, 0, -5, 1, 4, 2, 1).gives(3);
    }

    @Says(in = "Terms", words = "(reckoned exactly).")
    static void unevenByWhat64BitsDoNotTell() {
        Books x = Books.opened(LEAST, LEAST, LEAST, LEAST, LEAST, LEAST, LEAST, LEAST);
        long half = 1L << 62;
        x.postOf(1, 0, MOST, 1, MOST, 2, 1, 3, 1).gives(-3);
        x.postOf(1, 0, -MOST, 1, -MOST, 2, -1, 3, -1).gives(-3);
        x.postOf(1, 0, half, 1, half, 2, half, 3, half).gives(-3);
        x.postOf(1, 0, half, 1, half, 2, half, 3, half, 4, half, 5, half, 6, half, 7, half).gives(-3);
        x.postOf(1, 0, -half, 1, -half, 2, -half, 3, -half, 4, -half, 5, -half, 6, -half, 7, -half).gives(-3);
        x.postOf(1, 0, 1L << 32, 1, -1).gives(-3);
        x.postOf(1, 0, 1L << 31, 1, 1L << 31).gives(-3);
        x.postOf(1, 0, MOST, 1, MOST, 2, MOST, 3, MOST, 4, -MOST, 5, -MOST, 6, -MOST, 7, -MOST).gives(8);
    }

    @Says(in = "Terms", words = "(reckoned exactly).")
    static void unevenByOneBesideEachBit() {
        for (int bit = 1; bit < 63; bit++) {
            Books x = Books.opened(LEAST, LEAST);
            x.postOf(1, 0, 1L << bit, 1, -(1L << bit) + 1).gives(-3);
            x.postOf(1, 0, 1L << bit, 1, -(1L << bit) - 1).gives(-3);
            x.postOf(1, 0, 1L << bit, 1, -(1L << bit - 1)).gives(-3);
            x.postOf(1, 0, 1L << bit, 1, -(1L << bit)).gives(2);
        }
    }

    @Says(in = "Terms", words = "-4 KEY: it is that of an entry already, but the call isn't the same (KIND")
    static void keyOfAnotherKind() {
        Books x = ofAllKindsAndAHold();
        for (long key : new long[] {2, 3, 4, 5, 6}) {
            x.move(key, 0, 1, 10).gives(-4);
        }
        for (long key : new long[] {1, 4, 5}) {
            x.hold(key, 0, 5).gives(-4);
        }
        for (long key : new long[] {1, 2, 3, 5, 6}) {
            x.capture(key, 9, 0, 5).gives(-4);
        }
        for (long key : new long[] {1, 2, 3, 4, 6}) {
            x.reverse(key, 6).gives(-4);
        }
    }

    @Says(in = "Terms", words = "and all that its bytes tell;")
    static void keyOfAPostOfOtherLegs() {
        Books x = Books.opened(LEAST, LEAST, LEAST);
        x.postOf(1, 0, -9, 1, 5, 1, 4).gives(3);
        x.postOf(1, 0, -8, 1, 4, 1, 4).gives(-4);
        x.postOf(1, 0, -9 - (1L << 32), 1, 5 + (1L << 32), 1, 4).gives(-4);
        x.postOf(1, 0, -9, 1, 5, 2, 4).gives(-4);
        x.postOf(1, 0, -9, 1, 4, 1, 5).gives(-4);
        x.postOf(1, 0, -9, 1, 9).gives(-4);
        x.postOf(1, 0, -9, 1, 5, 1, 4, 2, 1, 2, -1).gives(-4);
        x.postOf(1, 0, -9, 1, 5, 1, 4).gives(3);
    }

    @Says(in = "Terms", words = "and all that its bytes tell;")
    static void keyOfAnotherHold() {
        Books x = Books.opened(LEAST, LEAST);
        x.hold(1, 0, 9).gives(2);
        x.hold(1, 1, 9).gives(-4);
        x.hold(1, 0, 8).gives(-4);
        x.hold(1, 0, 9 + (1L << 32)).gives(-4);
        x.hold(1, 0, 9 + (1L << 62)).gives(-4);
        x.hold(1, 0, 9).gives(2);
    }

    @Says(in = "Terms", words = "and all that its bytes tell;")
    static void keyOfAnotherCapture() {
        Books x = Books.opened(LEAST, LEAST, LEAST);
        x.hold(1, 0, 9).gives(3);
        x.hold(2, 0, 9).gives(4);
        x.capture(3, 3, 1, 9).gives(5);
        x.capture(3, 4, 1, 9).gives(-4);
        x.capture(3, 3, 2, 9).gives(-4);
        x.capture(3, 3, 1, 8).gives(-4);
        x.capture(3, 3, 1, 9).gives(5);
    }

    @Says(in = "Terms", words = "and all that its bytes tell;")
    static void keyOfAnotherReversal() {
        Books x = Books.opened(LEAST, LEAST);
        x.move(1, 0, 1, 9).gives(2);
        x.move(2, 0, 1, 9).gives(3);
        x.reverse(3, 2).gives(4);
        x.reverse(3, 3).gives(-4);
        x.reverse(3, 4).gives(-4);
        x.reverse(3, 2).gives(4);
    }

    @Says(in = "Terms", words = "-4 KEY: it is that of an entry already,")
    static void keysAreOthersByAnyOf64Bits() {
        Books x = Books.opened(LEAST);
        x.hold(1, 0, 1).gives(1);
        x.hold(1 + (1L << 32), 0, 1).gives(2);
        x.hold(1 + LEAST, 0, 1).gives(3);
        x.hold(LEAST, 0, 1).gives(4);
        x.hold(MOST, 0, 1).gives(5);
        x.hold(-1, 0, 1).gives(6);
        x.hold(LEAST, 0, 2).gives(-4);
        x.hold(MOST, 0, 2).gives(-4);
        x.hold(-1, 0, 2).gives(-4);
    }

    @Says(in = "Terms", words = "if it is: the call gives that entry's number, and nothing happens).")
    static void samePostAgain() {
        Books x = ofAllKindsAndAHold();
        String before = x.state();
        x.move(1, 0, 1, 10).gives(2);
        x.stillHasState(before);
    }

    @Says(in = "Terms", words = "if it is: the call gives that entry's number, and nothing happens).")
    static void sameHoldAgain() {
        Books x = ofAllKindsAndAHold();
        String before = x.state();
        x.hold(6, 0, 2).gives(9);
        // also if its HOLD is gone
        x.hold(2, 0, 5).gives(3);
        x.hold(3, 1, 5).gives(5);
        x.stillHasState(before);
    }

    @Says(in = "Terms", words = "if it is: the call gives that entry's number, and nothing happens).")
    static void sameCaptureAgain() {
        Books x = ofAllKindsAndAHold();
        String before = x.state();
        x.capture(4, 5, 0, 5).gives(6);
        x.stillHasState(before);
    }

    @Says(in = "Terms", words = "if it is: the call gives that entry's number, and nothing happens).")
    static void sameReversalAgain() {
        Books x = ofAllKindsAndAHold();
        String before = x.state();
        x.reverse(5, 2).gives(7);
        x.stillHasState(before);
    }

    @Says(in = "Terms", words = "if it is: the call gives that entry's number, and nothing happens).")
    static void sameCallBringsNoTrial() {
        Books x = Books.opened(-10, 0);
        x.every(2);
        x.move(1, 0, 1, 1).gives(2);
        x.move(1, 0, 1, 1).gives(2);
        x.count(1).gives(3);
        x.count(5).gives(1);
    }

    @Says(in = "Terms", words = "if it is: the call gives that entry's number, and nothing happens).")
    static void sameCallOfBytesThatAreAltered() {
        Books x = Books.opened(-10, 0);
        x.move(1, 0, 1, 5).gives(2);
        x.overwrite(2, EntryBytes.post(7, 0, -6, 1, 6));
        x.move(1, 0, 1, 5).gives(2);
        x.move(1, 0, 1, 6).gives(-4);
        x.move(7, 0, 1, 5).gives(3);
    }

    @Says(in = "Terms", words = "-5 OVER: a BALANCE that, behind one of the legs, would not be a number of 64 bits.")
    static void overAboveTheMost() {
        Books x = Books.opened(LEAST, 0, LEAST);
        x.move(1, 0, 1, MOST - 1).gives(3);
        x.move(2, 2, 1, 2).gives(-5);
        x.move(2, 2, 1, 1).gives(4);
        x.account(1, 0).gives(MOST);
        x.move(3, 2, 1, 1).gives(-5);
        x.move(3, 2, 1, MOST).gives(-5);
    }

    @Says(in = "Terms", words = "-5 OVER: a BALANCE that, behind one of the legs, would not be a number of 64 bits.")
    static void overBelowTheLeast() {
        Books x = Books.opened(LEAST, 0, 0);
        x.move(1, 0, 1, MOST).gives(3);
        x.move(2, 0, 2, 2).gives(-5);
        x.move(2, 0, 2, 1).gives(4);
        x.account(0, 0).gives(LEAST);
        x.move(3, 0, 2, 1).gives(-5);
        x.move(3, 0, 2, MOST - 1).gives(-5);
    }

    @Says(in = "Terms", words = "-5 OVER: a BALANCE that, behind one of the legs, would not be a number of 64 bits.")
    static void overBehindAnyLegAlthoughNotBehindTheLast() {
        Books x = Books.opened(LEAST, LEAST);
        x.move(1, 0, 1, MOST).gives(2);
        x.postOf(2, 1, 1, 1, -1).gives(-5);
        x.postOf(2, 1, -1, 1, 1).gives(3);
        x.postOf(3, 0, -2, 0, 2).gives(-5);
        x.postOf(3, 0, 2, 0, -2).gives(4);
        x.postOf(4, 0, -1, 0, 1).gives(5);
    }

    @Says(in = "Terms", words = "-5 OVER: a BALANCE that, behind one of the legs, would not be a number of 64 bits.")
    static void overOfACapture() {
        Books x = Books.opened(LEAST, 0, LEAST);
        x.move(1, 0, 1, MOST - 5).gives(3);
        x.hold(2, 2, 9).gives(4);
        x.capture(3, 4, 1, 6).gives(-5);
        x.count(3).gives(1);
        x.capture(3, 4, 1, 5).gives(5);
        x.account(1, 0).gives(MOST);
    }

    @Says(in = "Terms", words = "-5 OVER: a BALANCE that, behind one of the legs, would not be a number of 64 bits.")
    static void overOfAReversal() {
        Books x = Books.opened(LEAST, LEAST, LEAST);
        x.move(1, 0, 1, 5).gives(3);
        x.move(2, 2, 0, MOST - 1).gives(4);
        x.account(0, 0).gives(MOST - 6);
        x.move(3, 1, 0, 2).gives(5);
        x.reverse(4, 3).gives(-5);
        x.entry(3, 5).gives(-1);
        x.move(4, 0, 1, 1).gives(6);
        x.reverse(5, 3).gives(7);
        x.account(0, 0).gives(MOST);
    }

    @Says(in = "Terms", words = "-6 FLOOR: of an ACCOUNT of one of the legs")
    static void floorOfAnyLeg() {
        Books x = Books.opened(-10, -10, -10, 0);
        x.postOf(1, 0, -11, 1, 11).gives(-6);
        x.postOf(1, 1, 11, 0, -11).gives(-6);
        x.postOf(1, 0, -10, 1, -11, 2, 21).gives(-6);
        x.postOf(1, 0, -10, 1, -10, 2, -1, 3, 21).gives(4);
        x.postOf(2, 3, -22, 0, 22).gives(-6);
        x.postOf(2, 3, -21, 0, 21).gives(5);
    }

    @Says(in = "Terms", words = "(a HOLD's, too)")
    static void floorOfAHold() {
        Books x = Books.opened(-10, 0);
        x.hold(1, 1, 1).gives(-6);
        x.hold(1, 0, 11).gives(-6);
        x.hold(1, 0, 10).gives(2);
        x.hold(2, 0, 1).gives(-6);
    }

    @Says(in = "Terms", words = "BALANCE less HOLDS,")
    static void floorOfBalanceLessHolds() {
        Books x = Books.opened(-10, 0);
        x.hold(1, 0, 4).gives(2);
        x.move(2, 0, 1, 7).gives(-6);
        x.move(2, 0, 1, 6).gives(3);
        x.hold(3, 1, 6).gives(4);
        x.reverse(4, 3).gives(-6);
        x.release(4).gives(5);
        x.reverse(4, 3).gives(6);
    }

    @Says(in = "Terms", words = "behind all of it,")
    static void floorBehindAllLegsAlone() {
        Books x = Books.opened(0, 0, -10);
        x.postOf(1, 0, -9, 1, 9, 0, 9, 1, -9).gives(3);
        x.postOf(2, 0, 9, 1, -9, 0, -10, 2, 10).gives(-6);
        x.postOf(2, 2, -50, 0, 50, 2, 45, 0, -45).gives(4);
        x.account(0, 0).gives(5);
    }

    @Says(in = "Terms", words = "behind all of it,")
    static void floorBehindACaptureIsWithoutItsHold() {
        Books x = Books.opened(-10, 0);
        x.hold(1, 0, 6).gives(2);
        x.hold(2, 0, 4).gives(3);
        x.capture(3, 2, 1, 6).gives(4);
        x.capture(4, 3, 0, 4).gives(5);
        x.account(0, 0).gives(-6);
        x.hold(5, 0, 4).gives(6);
    }

    @Says(in = "Terms", words = "would be below its FLOOR")
    static void atTheFloorIsFine() {
        for (long floor : new long[] {0, -1, -100, LEAST + 1}) {
            Books x = Books.opened(floor, LEAST, LEAST);
            x.move(1, 1, 0, 5).gives(3);
            x.postOf(2, 0, -5, 1, 4, 2, 1).gives(4);
            if (floor < 0) {
                x.move(3, 0, 1, -floor).gives(5);
            }
            x.account(0, 0).gives(floor);
            x.move(4, 0, 1, 1).gives(-6);
            x.hold(4, 0, 1).gives(-6);
        }
    }

    @Says(in = "Terms", words = "(exactly).")
    static void floorOfAHoldBeyond64Bits() {
        Books x = Books.opened(LEAST, LEAST);
        x.hold(1, 0, MOST).gives(2);
        x.hold(2, 0, 2).gives(-6);
        x.hold(2, 0, MOST).gives(-6);
        x.hold(2, 0, 1).gives(3);
        x.hold(3, 0, 1).gives(-6);
        x.move(3, 0, 1, 1).gives(-6);
        x.move(3, 0, 1, MOST).gives(-6);
    }

    @Says(in = "Terms", words = "(exactly).")
    static void floorOfHoldsBeyond64Bits() {
        Books x = Books.opened(LEAST, LEAST);
        x.move(1, 0, 1, MOST).gives(2);
        x.hold(2, 1, MOST).gives(3);
        x.move(3, 1, 0, 1).gives(4);
        x.move(4, 0, 1, 1).gives(5);
        x.hold(5, 1, MOST).gives(6);
        // HOLDS are 2^64 - 2 now: one more is all that the FLOOR leaves
        x.hold(6, 1, 2).gives(-6);
        x.move(6, 1, 0, 2).gives(-6);
        x.hold(6, 1, 1).gives(7);
        x.hold(7, 1, 1).gives(-6);
        x.move(7, 1, 0, 1).gives(-6);
        x.postOf(7, 1, -1, 1, 1).gives(8);
        x.reverse(8, 2).gives(-6);
        x.release(3).gives(9);
        x.reverse(8, 2).gives(10);
        x.move(9, 1, 0, 1).gives(-6);
    }

    @Says(in = "Terms", words = "-7 REVERSED: the entry has a REVERSAL already.")
    static void reversedAlready() {
        Books x = Books.opened(LEAST, LEAST);
        x.move(1, 0, 1, 9).gives(2);
        x.hold(2, 0, 9).gives(3);
        x.capture(3, 3, 1, 9).gives(4);
        x.reverse(4, 2).gives(5);
        x.reverse(5, 4).gives(6);
        x.reverse(6, 5).gives(7);
        String before = x.state();
        for (int i : new int[] {2, 4, 5}) {
            x.reverse(7, i).gives(-7);
        }
        x.stillHasState(before);
        x.reverse(7, 7).gives(8);
        x.reverse(8, 2).gives(-7);
    }

    @Says(in = "Terms", words = "-8 FULL: there are 200 entries.")
    static void fullIsEachCall() {
        Books x = full();
        String before = x.sums();
        x.open(0).gives(-8);
        x.hold(99, 0, 1).gives(-8);
        x.release(11).gives(-8);
        x.capture(99, 11, 1, 1).gives(-8);
        x.reverse(99, 10).gives(-8);
        x.stillHasSums(before);
        x.move(99, 0, 1, 1).gives(-8);
        x.count(6).gives(2);
        x.clear();
        x.stillHasSums(before);
        x.entry(11, 5).gives(-1);
        x.entry(10, 5).gives(-1);
    }

    @Says(in = "Terms", words = "-8 FULL: there are 200 entries.")
    static void fullIsNotSaidOfTheLastEntry() {
        Books x = Books.opened(-1000, -1000);
        x.hold(1, 0, 1).gives(2);
        for (int i = 3; i < 199; i++) {
            x.hold(i, 0, 1).gives(i);
        }
        x.release(2).gives(199);
        x.release(3).gives(-8);
    }

    @Says(in = "Terms", words = "First what makes a number impossible (NONE),")
    static void noneBeforeKey() {
        Books x = Books.opened(LEAST);
        x.hold(1, 0, 5).gives(1);
        x.post(1).gives(-1);
        x.hold(1, 0, 0).gives(-1);
        x.hold(1, -1, 5).gives(-1);
        x.hold(1, 256, 5).gives(-1);
        x.capture(1, -1, 0, 1).gives(-1);
        x.capture(1, 200, 0, 1).gives(-1);
        x.capture(1, 1, -1, 1).gives(-1);
        x.capture(1, 1, 256, 1).gives(-1);
        x.capture(1, 1, 0, 0).gives(-1);
        x.reverse(1, -1).gives(-1);
        x.reverse(1, 200).gives(-1);
    }

    @Says(in = "Terms", words = "First what makes a number impossible (NONE),")
    static void noneBeforeUnknown() {
        Books x = Books.opened(LEAST);
        x.hold(0, 255, 5).gives(-1);
        x.hold(1, 255, 0).gives(-1);
        x.capture(0, 0, 0, 1).gives(-1);
        x.capture(1, 0, 255, 0).gives(-1);
        x.reverse(0, 0).gives(-1);
        x.leg(255, 5);
        x.post(0).gives(-1);
    }

    @Says(in = "Terms", words = "First what makes a number impossible (NONE),")
    static void noneBeforeFull() {
        Books x = full();
        x.post(99).gives(-1);
        x.hold(0, 0, 1).gives(-1);
        x.hold(99, 0, 0).gives(-1);
        x.release(-1).gives(-1);
        x.release(200).gives(-1);
        x.capture(99, 11, 1, 0).gives(-1);
        x.reverse(0, 10).gives(-1);
        x.leg(0, 1);
        x.post(0).gives(-1);
    }

    @Says(in = "Terms", words = ORDER)
    static void keyBeforeUnknown() {
        Books x = ofAllKindsAndAHold();
        x.postOf(1, 0, -10, 9, 10).gives(-4);
        x.hold(1, 9, 5).gives(-4);
        x.capture(1, 0, 0, 1).gives(-4);
        x.capture(4, 5, 9, 5).gives(-4);
        x.reverse(1, 0).gives(-4);
        x.reverse(5, 199).gives(-4);
    }

    @Says(in = "Terms", words = ORDER)
    static void sameCallBeforeUnknown() {
        Books x = ofAllKindsAndAHold();
        // its HOLD is gone
        x.capture(4, 5, 0, 5).gives(6);
    }

    @Says(in = "Terms", words = ORDER)
    static void keyBeforeUneven() {
        Books x = ofAllKindsAndAHold();
        x.postOf(1, 0, -10, 1, 11).gives(-4);
    }

    @Says(in = "Terms", words = ORDER)
    static void keyBeforeReversedAndSoTheSameCall() {
        Books x = ofAllKindsAndAHold();
        x.reverse(1, 2).gives(-4);
        x.reverse(5, 2).gives(7);
        x.reverse(9, 2).gives(-7);
    }

    @Says(in = "Terms", words = ORDER)
    static void keyBeforeOverAndSoTheSameCall() {
        Books x = Books.opened(LEAST, LEAST);
        x.move(1, 0, 1, MOST).gives(2);
        x.move(1, 0, 1, 1).gives(-4);
        x.move(1, 0, 1, MOST).gives(2);
        x.hold(3, 0, 1).gives(3);
        x.capture(1, 3, 1, 1).gives(-4);
    }

    @Says(in = "Terms", words = ORDER)
    static void keyBeforeFloorAndSoTheSameCall() {
        Books x = Books.opened(-10, 0);
        x.move(1, 0, 1, 6).gives(2);
        x.hold(2, 0, 4).gives(3);
        x.move(1, 0, 1, 9).gives(-4);
        x.move(1, 0, 1, 6).gives(2);
        x.hold(2, 0, 9).gives(-4);
        x.hold(2, 0, 4).gives(3);
        x.hold(1, 0, 4).gives(-4);
    }

    @Says(in = "Terms", words = ORDER)
    static void keyBeforeFullAndSoTheSameCall() {
        Books x = full();
        x.move(1, 0, 1, 1).gives(-4);
        x.move(1, 0, 1, 5).gives(4);
        x.hold(5, 0, 1).gives(-4);
        x.hold(5, 1, 5).gives(8);
        x.capture(5, 11, 1, 1).gives(-4);
        x.reverse(5, 10).gives(-4);
        x.reverse(4, 6).gives(7);
    }

    @Says(in = "Terms", words = ORDER)
    static void unknownBeforeUneven() {
        Books x = Books.opened(LEAST);
        x.postOf(1, 0, -1, 1, 2).gives(-2);
        x.postOf(1, 255, 1).gives(-2);
    }

    @Says(in = "Terms", words = ORDER)
    static void unknownBeforeOver() {
        Books x = Books.opened(LEAST, LEAST);
        x.move(1, 0, 1, MOST).gives(2);
        x.postOf(2, 1, 1, 9, -1).gives(-2);
        x.hold(2, 0, 1).gives(3);
        // above what is held, and above what account 1 can have
        x.capture(3, 3, 1, 2).gives(-2);
        x.capture(3, 3, 1, 1).gives(-5);
    }

    @Says(in = "Terms", words = ORDER)
    static void unknownBeforeFloor() {
        Books x = Books.opened(0);
        x.postOf(1, 0, -1, 1, 1).gives(-2);
        x.hold(1, 1, MOST).gives(-2);
    }

    @Says(in = "Terms", words = ORDER)
    static void unknownBeforeFull() {
        Books x = full();
        x.postOf(99, 0, -1, 9, 1).gives(-2);
        x.hold(99, 9, 1).gives(-2);
        x.release(4).gives(-2);
        x.capture(99, 4, 1, 1).gives(-2);
        x.capture(99, 11, 9, 1).gives(-2);
        x.capture(99, 11, 1, 4).gives(-2);
        x.reverse(99, 8).gives(-2);
    }

    @Says(in = "Terms", words = ORDER)
    static void unevenBeforeOver() {
        Books x = Books.opened(LEAST, LEAST);
        x.postOf(1, 0, MOST, 0, MOST).gives(-3);
        x.postOf(1, 0, MOST, 0, 1, 1, -MOST).gives(-3);
    }

    @Says(in = "Terms", words = ORDER)
    static void unevenBeforeFloor() {
        Books x = Books.opened(0, 0);
        x.postOf(1, 0, -2, 1, 1).gives(-3);
    }

    @Says(in = "Terms", words = ORDER)
    static void unevenBeforeFull() {
        full().postOf(99, 0, -1, 1, 2).gives(-3);
    }

    @Says(in = "Terms", words = ORDER)
    static void reversedBeforeOver() {
        Books x = Books.opened(LEAST, LEAST, LEAST);
        x.move(1, 0, 1, 5).gives(3);
        x.reverse(2, 3).gives(4);
        x.move(3, 1, 0, MOST).gives(5);
        // once more, account 0 would be above the most
        x.reverse(4, 3).gives(-7);
    }

    @Says(in = "Terms", words = ORDER)
    static void reversedBeforeFloor() {
        Books x = Books.opened(-5, 0);
        x.move(1, 0, 1, 5).gives(2);
        x.reverse(2, 2).gives(3);
        // once more, account 1 would be below 0
        x.reverse(3, 2).gives(-7);
    }

    @Says(in = "Terms", words = ORDER)
    static void reversedBeforeFull() {
        full().reverse(99, 6).gives(-7);
    }

    @Says(in = "Terms", words = ORDER)
    static void overBeforeFloor() {
        Books x = Books.opened(LEAST, 0, 0, LEAST);
        x.move(1, 0, 1, MOST).gives(4);
        x.move(2, 2, 1, 1).gives(-5);
        x.move(3, 1, 2, 5).gives(5);
        x.move(4, 2, 3, 5).gives(6);
        x.move(5, 3, 1, 5).gives(7);
        // entry 5 back: account 1 would be above the most, and account 2 below 0
        x.reverse(6, 5).gives(-5);
        x.move(7, 1, 0, 5).gives(8);
        x.reverse(6, 5).gives(-6);
    }

    @Says(in = "Terms", words = ORDER)
    static void overBeforeFull() {
        Books x = full();
        x.move(99, 2, 3, 1).gives(-5);
        x.capture(99, 11, 3, 1).gives(-5);
        x.reverse(99, 9).gives(-5);
    }

    @Says(in = "Terms", words = ORDER)
    static void floorBeforeFull() {
        Books x = full();
        x.move(99, 1, 0, 1).gives(-6);
        x.hold(99, 1, 1).gives(-6);
        x.reverse(99, 4).gives(-6);
    }

    /** Books.ofAllKinds(), and HOLD 9 (key 6). */
    private static Books ofAllKindsAndAHold() {
        Books x = Books.ofAllKinds();
        x.hold(6, 0, 2).gives(9);
        return x;
    }

    /**
     * 200 entries, and each refusal but FULL has something to refuse: account 1 has nothing that isn't held, 3 is at
     * the most, POST 6 is REVERSED, POST 9 can't be REVERSED (account 3), nor 4 (account 1); 10 could, HOLD 11 is there.
     */
    private static Books full() {
        Books x = Books.opened(-1000, 0, LEAST, LEAST);
        x.move(1, 0, 1, 5).gives(4);
        x.move(2, 2, 3, MOST).gives(5);
        x.move(3, 0, 1, 1).gives(6);
        x.reverse(4, 6).gives(7);
        x.hold(5, 1, 5).gives(8);
        x.move(6, 3, 2, 10).gives(9);
        x.move(7, 0, 3, 10).gives(10);
        x.hold(8, 0, 3).gives(11);
        return x.filled(12);
    }
}

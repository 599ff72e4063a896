/** The edges of promises 6 to 10 (acquire to arrive) and 13 to 16 (state, holder, waits, ring), a test each. */
public final class LockEdgeTest {
    private static final String ALL_ARRIVE = Scene.ALL_ARRIVE;
    private static final Scene NEW = Scene.NEW;
    private static final Scene BUSY = Scene.BUSY;
    private static final Scene FULL = Scene.FULL;
    private static final Scene FREE = Scene.FREE;

    public static void main(String[] args) {
        acquireOfNone();
        acquireOfFirstAndLast();
        acquireOfAMachineThatDoesNotRun();
        acquireOfALockThatItHolds();
        acquireAtTheEndOfTheRow();
        releaseOfNone();
        releaseOfFirstAndLast();
        releaseOfALockThatItDoesNotHold();
        releaseOfAHolderThatDoesNotRun();
        restOfNone();
        restOfFirstAndLast();
        restOfALockThatItDoesNotHold();
        restOfAHolderThatDoesNotRun();
        restBehindThoseThatRest();
        wakeOfNone();
        wakeOfALockThatItDoesNotHold();
        wakeOfAHolderThatDoesNotRun();
        wakeWhenNobodyRests();
        wakeOfTheFirstOnly();
        wakeOfAll();
        wakeLeavesOtherLocks();
        arriveOfNone();
        arriveOfAMachineThatDoesNotRun();
        arriveOfTheFourth();
        accessesFullDoNotMatter();
        stateOfNone();
        stateOfEachKind();
        holderOfNone();
        holderOfNobody();
        waitsOfNoLock();
        waitsOfAnEmptyRow();
        waitsOfAFullRow();
        waitsOfAFullRest();
        waitsOfNoSuchPlace();
        waitsOfEachLockApart();
        ringOfNone();
        ringOfAMachineThatDoesNotWait();
        ringThroughAHolderThatDoesNotWait();
        ringOfTwoToFour();
        ringThatItOnlyLeadsTo();
        ringThatIsOpenedAgain();
        questionsChangeNothing();
        Due.end();
    }

    private static void noneOfFour(String name, String more, long due) {
        for (int n : Edge.outside(4)) {
            Edge.still(name + "(" + n + ", 0" + more + ")", due, NEW, BUSY, FULL, FREE);
            Edge.still(name + "(0, " + n + more + ")", due, NEW, BUSY, FULL, FREE);
            Edge.still(name + "(" + n + ", " + n + more + ")", due, BUSY);
        }
    }

    private static void acquireOfNone() {
        Due.part("6 acquire: REFUSED if there is no such machine or lock");
        noneOfFour("acquire", "", Edge.REFUSED);
    }

    private static void acquireOfFirstAndLast() {
        Due.part("6 acquire: 1 for machines and locks 0 and 3");
        Run.of("acquire(0, 3) = 1; acquire(3, 0) = 1; holder(3) = 0; holder(0) = 3; holder(1) = REFUSED; holder(2) = REFUSED",
            "acquire(0, 1) = 1; acquire(0, 2) = 1; holder(1) = 0; holder(2) = 0; state(0) = 0; state(3) = 0");
    }

    private static void acquireOfAMachineThatDoesNotRun() {
        Due.part("6 acquire: REFUSED if the machine does not run");
        for (int machine = 1; machine < 4; machine++) {
            for (int lock = 0; lock < 4; lock++) {
                Edge.still("acquire(" + machine + ", " + lock + ")", Edge.REFUSED, BUSY);
            }
        }
        Edge.still("acquire(2, 1)", Edge.REFUSED, FREE);
        Edge.still("acquire(2, 0)", Edge.REFUSED, FREE);
        Edge.still("acquire(3, 0)", Edge.REFUSED, FREE);
    }

    private static void acquireOfALockThatItHolds() {
        Due.part("6 acquire: REFUSED if the machine holds the lock");
        Edge.still("acquire(0, 0)", Edge.REFUSED, BUSY, FULL);
        Run.of("acquire(3, 3) = 1; acquire(3, 3) = REFUSED; state(3) = 0; waits(3, false, -1) = 0; release(3, 3) = true; acquire(3, 3) = 1");
    }

    private static void acquireAtTheEndOfTheRow() {
        Due.part("6 acquire: else the machine waits at the end of the row (0)");
        Run.of("acquire(1, 2) = 1; acquire(3, 2) = 0; acquire(0, 2) = 0; acquire(2, 2) = 0; total(2) = 1; holder(2) = 1",
            "waits(2, false, -1) = 3; waits(2, false, 0) = 3; waits(2, false, 1) = 0; waits(2, false, 2) = 2",
            "release(1, 2) = true; acquire(1, 2) = 0; waits(2, false, -1) = 3; waits(2, false, 2) = 1; holder(2) = 3");
    }

    private static void releaseOfNone() {
        Due.part("7 release: false if there is no such machine or lock");
        noneOfFour("release", "", Edge.NO);
    }

    private static void releaseOfFirstAndLast() {
        Due.part("7 release: true for machines and locks 0 and 3");
        Run.of("acquire(0, 3); acquire(3, 0); release(0, 3) = true; holder(3) = REFUSED; holder(0) = 3; release(3, 0) = true",
            "holder(0) = REFUSED; release(0, 3) = false; release(3, 0) = false");
    }

    private static void releaseOfALockThatItDoesNotHold() {
        Due.part("7 release: false if the machine does not hold the lock");
        for (int lock = 1; lock < 4; lock++) {
            Edge.still("release(0, " + lock + ")", Edge.NO, BUSY, FULL);
        }
        for (int lock = 0; lock < 4; lock++) {
            Edge.still("release(0, " + lock + ")", Edge.NO, NEW, FREE);
        }
        Edge.still("release(2, 1)", Edge.NO, FREE);
        Edge.still("release(1, 0)", Edge.NO, BUSY);
    }

    private static void releaseOfAHolderThatDoesNotRun() {
        Due.part("7 release: false if the machine does not run");
        for (int machine = 1; machine < 4; machine++) {
            Edge.still("release(" + machine + ", " + machine + ")", Edge.NO, BUSY, FULL);
        }
    }

    private static void restOfNone() {
        Due.part("8 rest: false if there is no such machine or lock");
        noneOfFour("rest", "", Edge.NO);
    }

    private static void restOfFirstAndLast() {
        Due.part("8 rest: true for machines and locks 0 and 3");
        Run.of("acquire(0, 3); acquire(3, 0); rest(0, 3) = true; rest(3, 0) = true; state(0) = 3; state(3) = 3",
            "waits(3, true, 0) = 0; waits(0, true, 0) = 3; holder(0) = REFUSED; holder(3) = REFUSED");
    }

    private static void restOfALockThatItDoesNotHold() {
        Due.part("8 rest: false if the machine does not hold the lock");
        for (int lock = 1; lock < 4; lock++) {
            Edge.still("rest(0, " + lock + ")", Edge.NO, BUSY, FULL);
        }
        for (int lock = 0; lock < 4; lock++) {
            Edge.still("rest(0, " + lock + ")", Edge.NO, NEW, FREE);
        }
        Edge.still("rest(2, 1)", Edge.NO, FREE);
        Edge.still("rest(1, 0)", Edge.NO, BUSY);
    }

    private static void restOfAHolderThatDoesNotRun() {
        Due.part("8 rest: false if the machine does not run");
        for (int machine = 1; machine < 4; machine++) {
            Edge.still("rest(" + machine + ", " + machine + ")", Edge.NO, BUSY, FULL);
        }
    }

    private static void restBehindThoseThatRest() {
        Due.part("8 rest: behind those that rest there, up to all four");
        Run.of("acquire(3, 1); rest(3, 1) = true; acquire(1, 1); acquire(0, 1); rest(1, 1) = true; holder(1) = 0; state(0) = 0",
            "rest(0, 1) = true; acquire(2, 1); rest(2, 1) = true; total(2) = 0; waits(1, true, -1) = 4",
            "waits(1, true, 0) = 3; waits(1, true, 1) = 1; waits(1, true, 2) = 0; waits(1, true, 3) = 2; waits(2, true, -1) = 0");
    }

    private static void wakeOfNone() {
        Due.part("9 wake: REFUSED if there is no such machine or lock");
        noneOfFour("wake", ", true", Edge.REFUSED);
        noneOfFour("wake", ", false", Edge.REFUSED);
    }

    private static void wakeOfALockThatItDoesNotHold() {
        Due.part("9 wake: REFUSED if the machine does not hold the lock");
        for (int lock = 0; lock < 4; lock++) {
            Edge.still("wake(0, " + lock + ", true)", Edge.REFUSED, NEW, FREE);
            Edge.still("wake(0, " + lock + ", false)", Edge.REFUSED, NEW, FREE);
        }
        for (int lock = 1; lock < 4; lock++) {
            Edge.still("wake(0, " + lock + ", true)", Edge.REFUSED, BUSY, FULL);
        }
        Edge.still("wake(1, 0, true)", Edge.REFUSED, BUSY);
        Edge.still("wake(2, 0, true)", Edge.REFUSED, BUSY);
        Scene heldByAnother = new Scene(FREE.before + "acquire(1, 1); ", "wake(1, 1, true); release(1, 1); release(2, 1); ");
        Edge.still("wake(0, 1, true)", Edge.REFUSED, heldByAnother);
        Edge.still("wake(0, 1, false)", Edge.REFUSED, heldByAnother);
    }

    private static void wakeOfAHolderThatDoesNotRun() {
        Due.part("9 wake: REFUSED if the machine does not run");
        for (int machine = 1; machine < 4; machine++) {
            Edge.still("wake(" + machine + ", " + machine + ", true)", Edge.REFUSED, BUSY);
        }
        Scene atBarrier = new Scene(FREE.before + "acquire(1, 1); arrive(1); ", "arrive(0); ");
        Edge.still("wake(1, 1, true)", Edge.REFUSED, atBarrier);
        Edge.still("wake(1, 1, false)", Edge.REFUSED, atBarrier);
    }

    private static void wakeWhenNobodyRests() {
        Due.part("9 wake: 0, and nothing changes, if nobody rests");
        Scene held = new Scene("acquire(0, 3); acquire(1, 3); acquire(2, 2); rest(2, 2); ", "release(0, 3); release(1, 3); ");
        Edge.still("wake(0, 3, false)", 0, held);
        Edge.still("wake(0, 3, true)", 0, held);
    }

    private static void wakeOfTheFirstOnly() {
        Due.part("9 wake: the first of those that rest");
        Run.of("acquire(2, 0); rest(2, 0); acquire(0, 0); rest(0, 0); acquire(1, 0); acquire(3, 0); wake(1, 0, false) = 1",
            "state(2) = 1; state(0) = 3; waits(0, true, -1) = 1; waits(0, true, 0) = 0; waits(0, true, 1) = REFUSED",
            "waits(0, false, -1) = 2; waits(0, false, 0) = 3; waits(0, false, 1) = 2; holder(0) = 1; wake(1, 0, false) = 1",
            "waits(0, false, 2) = 0; waits(0, true, -1) = 0; wake(1, 0, false) = 0; total(2) = 1");
        Run.of("acquire(2, 3); rest(2, 3); acquire(1, 3); wake(1, 3, false) = 1; state(2) = 1; release(1, 3); state(2) = 0; holder(3) = 2");
    }

    private static void wakeOfAll() {
        Due.part("9 wake: all, one after the other, at the end of the row");
        Run.of("acquire(2, 0); rest(2, 0); acquire(0, 0); rest(0, 0); acquire(1, 0); acquire(3, 0); wake(1, 0, true) = 2",
            "waits(0, true, -1) = 0; waits(0, false, -1) = 3; waits(0, false, 0) = 3; waits(0, false, 1) = 2; waits(0, false, 2) = 0");
        Run.of("acquire(3, 3); rest(3, 3); acquire(1, 3); rest(1, 3); acquire(2, 3); rest(2, 3); acquire(0, 3); wake(0, 3, true) = 3",
            "waits(3, false, -1) = 3; waits(3, false, 0) = 3; waits(3, false, 1) = 1; waits(3, false, 2) = 2; total(2) = 1",
            "release(0, 3); holder(3) = 3; release(3, 3); holder(3) = 1; release(1, 3); holder(3) = 2; release(2, 3); holder(3) = REFUSED");
    }

    private static void wakeLeavesOtherLocks() {
        Due.part("9 wake: those that rest at another lock rest on");
        Run.of("acquire(2, 0); rest(2, 0); acquire(3, 1); rest(3, 1); acquire(0, 0); wake(0, 0, true) = 1; state(3) = 3; waits(1, true, 0) = 3",
            "waits(1, false, -1) = 0; state(2) = 1");
    }

    private static void arriveOfNone() {
        Due.part("10 arrive: REFUSED if there is no such machine");
        Scene threeThere = new Scene("write(0, 0, 1); arrive(0); arrive(2); arrive(3); ", "arrive(1); ");
        for (int machine : Edge.outside(4)) {
            Edge.still("arrive(" + machine + ")", Edge.REFUSED, NEW, BUSY, FULL, threeThere);
        }
    }

    private static void arriveOfAMachineThatDoesNotRun() {
        Due.part("10 arrive: REFUSED if the machine does not run");
        Scene threeThere = new Scene("write(0, 0, 1); arrive(0); arrive(2); arrive(3); ", "arrive(1); ");
        for (int machine = 1; machine < 4; machine++) {
            Edge.still("arrive(" + machine + ")", Edge.REFUSED, BUSY, FULL);
        }
        Edge.still("arrive(0)", Edge.REFUSED, threeThere);
        Edge.still("arrive(3)", Edge.REFUSED, threeThere);
    }

    private static void arriveOfTheFourth() {
        Due.part("10 arrive: 1 if all run then, else 0");
        for (int last = 0; last < 4; last++) {
            Run run = Run.of();
            for (int round = 1; round <= 2; round++) {
                for (int i = 1; i <= 3; i++) {
                    run.play("arrive(" + (last + i) % 4 + ") = 0; total(2) = " + (4 - i) + "; total(1) = " + (round - 1));
                }
                run.play("arrive(" + last + ") = 1; total(2) = 4; total(1) = " + round);
                run.play("state(0) = 0; state(1) = 0; state(2) = 0; state(3) = 0");
            }
        }
        Due.part("10 arrive: locks stay held over the barrier");
        Run.of("acquire(1, 2); " + ALL_ARRIVE + "holder(2) = 1; acquire(0, 2) = 0; release(1, 2) = true; holder(2) = 0");
    }

    private static void accessesFullDoNotMatter() {
        Due.part("6 to 10: 300 kept accesses hinder no lock and no barrier");
        Run.of("write(0, 0, 1); ".repeat(300),
            "acquire(0, 0) = 1; acquire(1, 0) = 0; rest(0, 0) = true; knows(1, 0) = 300; wake(1, 0, true) = 1; release(1, 0) = true",
            "release(0, 0) = true; keeps(0, 0) = 300; arrive(0) = 0; arrive(1) = 0; arrive(2) = 0; arrive(3) = 1; knows(3, 0) = 300");
    }

    private static void stateOfNone() {
        Due.part("13 state: REFUSED if there is no such machine");
        for (int machine : Edge.outside(4)) {
            Edge.still("state(" + machine + ")", Edge.REFUSED, NEW, BUSY);
        }
    }

    private static void stateOfEachKind() {
        Due.part("13 state: 0 to 3");
        Run.of("state(0) = 0; state(3) = 0; acquire(0, 0); state(0) = 0; acquire(3, 0); state(3) = 1; rest(0, 0); state(0) = 3; state(3) = 0",
            "arrive(3); state(3) = 2; arrive(2); state(2) = 2; state(1) = 0");
    }

    private static void holderOfNone() {
        Due.part("14 holder: REFUSED if there is no such lock");
        for (int lock : Edge.outside(4)) {
            Edge.still("holder(" + lock + ")", Edge.REFUSED, NEW, BUSY);
        }
    }

    private static void holderOfNobody() {
        Due.part("14 holder: REFUSED if nobody holds the lock");
        for (int lock = 0; lock < 4; lock++) {
            Edge.still("holder(" + lock + ")", Edge.REFUSED, NEW, FREE);
            Edge.still("holder(" + lock + ")", lock, BUSY, FULL);
        }
        Run.of("acquire(0, 3); holder(3) = 0; release(0, 3); holder(3) = REFUSED; acquire(3, 0); holder(0) = 3; rest(3, 0); holder(0) = REFUSED");
    }

    private static void waitsOfNoLock() {
        Due.part("15 waits: REFUSED if there is no such lock");
        for (int lock : Edge.outside(4)) {
            for (int k = -1; k < 2; k++) {
                Edge.still("waits(" + lock + ", false, " + k + ")", Edge.REFUSED, NEW, BUSY);
                Edge.still("waits(" + lock + ", true, " + k + ")", Edge.REFUSED, NEW, BUSY);
            }
        }
    }

    private static void waitsOfAnEmptyRow() {
        Due.part("15 waits: an empty row");
        for (int lock = 0; lock < 4; lock++) {
            Run.of("waits(" + lock + ", false, -1) = 0; waits(" + lock + ", true, -1) = 0; "
                + "waits(" + lock + ", false, 0) = REFUSED; waits(" + lock + ", true, 0) = REFUSED");
        }
        Due.part("15 waits: a row that is empty again");
        Run.of("acquire(0, 0); acquire(1, 0); release(0, 0); waits(0, false, -1) = 0; waits(0, false, 0) = REFUSED",
            "rest(1, 0); waits(0, true, -1) = 1; acquire(0, 0); wake(0, 0, false); waits(0, true, -1) = 0; waits(0, true, 0) = REFUSED");
    }

    private static void waitsOfAFullRow() {
        Due.part("15 waits: a row of three");
        for (int lock = 0; lock < 4; lock++) {
            String row = "waits(" + lock + ", false, ";
            Run.of("acquire(2, " + lock + "); acquire(3, " + lock + "); acquire(1, " + lock + "); acquire(0, " + lock + ")",
                row + "-1) = 3; " + row + "0) = 3; " + row + "1) = 1; " + row + "2) = 0; " + row + "3) = REFUSED; " + row + "4) = REFUSED",
                "waits(" + lock + ", true, -1) = 0; waits(" + lock + ", true, 0) = REFUSED");
        }
    }

    private static void waitsOfAFullRest() {
        Due.part("15 waits: all four rest");
        for (int lock = 0; lock < 4; lock++) {
            Run run = Run.of();
            for (int machine = 3; machine >= 0; machine--) {
                run.play("acquire(" + machine + ", " + lock + ") = 1; rest(" + machine + ", " + lock + ") = true");
            }
            String row = "waits(" + lock + ", true, ";
            run.play(row + "-1) = 4; " + row + "0) = 3; " + row + "1) = 2; " + row + "2) = 1; " + row + "3) = 0; " + row + "4) = REFUSED");
            run.play("waits(" + lock + ", false, -1) = 0; waits(" + lock + ", false, 0) = REFUSED");
        }
    }

    private static void waitsOfNoSuchPlace() {
        Due.part("15 waits: REFUSED if there is no k-th");
        String[] ks = {"-2", "-3", "1", "2", "3", "4", "8", "32", "MIN", "MAX"};
        for (String k : ks) {
            Edge.still("waits(0, false, " + k + ")", Edge.REFUSED, BUSY);
            Edge.still("waits(0, true, " + k + ")", Edge.REFUSED, BUSY);
            Edge.still("waits(3, false, " + k + ")", Edge.REFUSED, BUSY);
            Edge.still("waits(3, true, " + k + ")", Edge.REFUSED, BUSY);
        }
        Due.part("15 waits: a row has no places of the next one");
        Run.of("acquire(0, 0); acquire(0, 1); acquire(2, 1); acquire(3, 0); waits(0, false, 1) = REFUSED; waits(0, false, 4) = REFUSED",
            "waits(0, false, 0) = 3; waits(1, false, 0) = 2; waits(1, false, -4) = REFUSED");
    }

    private static void waitsOfEachLockApart() {
        Due.part("15 waits: each lock has a row and rests of its own");
        for (int lock = 0; lock < 4; lock++) {
            Run run = Run.of("acquire(2, " + lock + "); rest(2, " + lock + "); acquire(0, " + lock + ")");
            Run other = Run.of("acquire(0, " + lock + "); acquire(1, " + lock + "); acquire(3, " + lock + ")");
            for (int asked = 0; asked < 4; asked++) {
                run.play("waits(" + asked + ", true, -1) = " + (asked == lock ? 1 : 0) + "; waits(" + asked + ", false, -1) = 0");
                other.play("waits(" + asked + ", false, -1) = " + (asked == lock ? 2 : 0) + "; waits(" + asked + ", true, -1) = 0");
            }
        }
    }

    private static void ringOfNone() {
        Due.part("16 ring: REFUSED if there is no such machine");
        for (int machine : Edge.outside(4)) {
            Edge.still("ring(" + machine + ")", Edge.REFUSED, NEW, BUSY);
        }
    }

    private static void ringOfAMachineThatDoesNotWait() {
        Due.part("16 ring: 0 if the machine does not wait for a lock");
        for (int machine = 0; machine < 4; machine++) {
            Edge.still("ring(" + machine + ")", 0, NEW, BUSY, FREE);
        }
        Run.of("acquire(0, 0); ring(0) = 0; acquire(1, 1); acquire(1, 0); ring(0) = 0; ring(1) = 0");
    }

    private static void ringThroughAHolderThatDoesNotWait() {
        Due.part("16 ring: 0 if a holder runs, rests or is at the barrier");
        Run.of("acquire(0, 0); acquire(1, 1); acquire(1, 0); ring(1) = 0; arrive(0); ring(1) = 0; ring(0) = 0");
        Run.of("acquire(0, 0); acquire(0, 1); acquire(1, 2); rest(0, 1); acquire(1, 1); acquire(2, 1); acquire(1, 0)",
            "state(0) = 3; state(1) = 1; ring(1) = 0; ring(0) = 0; ring(2) = 0");
        Due.part("16 ring: one that rests is in a ring once it is woken");
        Run.of("acquire(0, 0); acquire(0, 1); rest(0, 1); acquire(1, 1); wake(1, 1, false) = 1; ring(0) = 0; acquire(1, 0) = 0",
            "ring(0) = 1; ring(1) = 1");
    }

    private static void ringOfTwoToFour() {
        Due.part("16 ring: of two, three and four");
        for (int size = 2; size <= 4; size++) {
            Run run = Run.of();
            for (int m = 0; m < size; m++) {
                run.play("acquire(" + m + ", " + (3 - m) + ") = 1");
            }
            for (int m = 0; m < size; m++) {
                run.play("ring(0) = 0; ring(" + m + ") = 0; acquire(" + m + ", " + (3 - (m + 1) % size) + ") = 0");
            }
            for (int m = 0; m < 4; m++) {
                run.play("ring(" + m + ") = " + (m < size ? 1 : 0));
            }
        }
    }

    private static void ringThatItOnlyLeadsTo() {
        Due.part("16 ring: 0 if the machine only leads to a ring");
        String ringOfTwo = "acquire(0, 0); acquire(1, 1); acquire(2, 2); acquire(0, 1); acquire(1, 0); ring(0) = 1; ring(1) = 1; ";
        Run.of(ringOfTwo + "acquire(2, 0); acquire(3, 2); ring(2) = 0; ring(3) = 0; ring(0) = 1; ring(1) = 1");
    }

    private static void ringThatIsOpenedAgain() {
        Due.part("16 ring: what the machine waits for now counts");
        Run.of("acquire(0, 0); acquire(1, 1); acquire(1, 0); release(0, 0); state(1) = 0; acquire(0, 1); ring(0) = 0; ring(1) = 0",
            "release(1, 1); state(0) = 0; ring(0) = 0; acquire(0, 0); ring(0) = 0; acquire(1, 1); ring(0) = 1; ring(1) = 1");
    }

    private static void questionsChangeNothing() {
        Due.part("13 to 16: a question changes nothing");
        Edge.still("state(2)", 3, BUSY, FULL);
        Edge.still("holder(2)", 2, BUSY, FULL);
        Edge.still("waits(0, false, 0)", 1, BUSY, FULL);
        Edge.still("waits(0, true, 0)", 2, BUSY, FULL);
        Edge.still("waits(0, true, -1)", 1, BUSY, FULL);
        Edge.still("ring(1)", 0, BUSY, FULL);
    }
}

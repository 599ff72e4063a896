/** Promises 6 to 10 (acquire, release, rest, wake, arrive) and 13 to 16 (state, holder, waits, ring). */
public final class LockTest {
    private static final int[] NONE_OF_FOUR = {-1, 4, Integer.MIN_VALUE, Integer.MAX_VALUE};

    public static void main(String[] args) {
        acquireAndRow();
        acquireRefused();
        releaseHandsOn();
        releaseRefused();
        restInOrder();
        restHandsOn();
        restRefused();
        wakeOneAndAll();
        wakeTellsNothing();
        wakeRefused();
        arriveOpens();
        arriveWithLocks();
        arriveRefused();
        stateAndHolderRefused();
        waitsOfRows();
        ringsOfMachines();
        ringNeedsWaiting();
        Due.end();
    }

    private static void acquireAndRow() {
        Due.part("6 acquire");
        ClusterHeap x = new ClusterHeap();
        Due.is("free", x.acquire(2, 0), 1);
        Due.is("state", x.state(2), 0);
        Due.is("holder", x.holder(0), 2);
        Due.is("a second lock", x.acquire(2, 3), 1);
        Due.is("holder", x.holder(3), 2);
        Due.is("held", x.acquire(3, 0), 0);
        Due.is("held", x.acquire(0, 0), 0);
        Due.is("state", x.state(3), 1);
        Due.is("state", x.state(0), 1);
        Due.is("first", x.waits(0, false, 0), 3);
        Due.is("second", x.waits(0, false, 1), 0);
        Due.is("holder stays", x.holder(0), 2);
        Due.is("other row", x.waits(3, false, -1), 0);
        Due.is("run", x.total(2), 2);
    }

    private static void acquireRefused() {
        Due.part("6 acquire refused");
        ClusterHeap x = new ClusterHeap();
        for (int n : NONE_OF_FOUR) {
            Due.is("machine", x.acquire(n, 0), -1);
            Due.is("lock", x.acquire(0, n), -1);
        }
        x.acquire(0, 0);
        Due.is("holds it", x.acquire(0, 0), -1);
        Due.is("runs on", x.state(0), 0);
        Due.is("row", x.waits(0, false, -1), 0);
        x.acquire(1, 0);
        Due.is("waits", x.acquire(1, 1), -1);
        Due.is("waits for it", x.acquire(1, 0), -1);
        x.acquire(2, 1);
        x.rest(2, 1);
        Due.is("rests", x.acquire(2, 1), -1);
        x.arrive(3);
        Due.is("barrier", x.acquire(3, 1), -1);
        Due.is("holder 1", x.holder(1), -1);
        Due.is("row", x.waits(0, false, -1), 1);
    }

    private static void releaseHandsOn() {
        Due.part("7 release");
        ClusterHeap x = new ClusterHeap();
        x.acquire(0, 1);
        x.acquire(3, 1);
        x.acquire(1, 1);
        x.write(0, 0, 5);
        Due.is("keeps nothing yet", x.keeps(1, 0), 0);
        Due.is("3 does not know", x.knows(3, 0), 0);
        Due.isTrue("release", x.release(0, 1));
        Due.is("holder", x.holder(1), 3);
        Due.is("runs", x.state(3), 0);
        Due.is("still waits", x.state(1), 1);
        Due.is("row", x.waits(1, false, -1), 1);
        Due.is("row first", x.waits(1, false, 0), 1);
        Due.is("keeps", x.keeps(1, 0), 1);
        Due.is("3 knows", x.knows(3, 0), 1);
        Due.is("1 does not", x.knows(1, 0), 0);
        x.write(0, 1, 5);
        x.write(3, 2, 5);
        Due.is("keeps what was known then", x.keeps(1, 0), 1);
        Due.isTrue("release", x.release(3, 1));
        Due.is("1 knows of 3", x.knows(1, 3), 1);
        Due.is("1 knows of 0 by 3", x.knows(1, 0), 1);
        Due.isTrue("release", x.release(1, 1));
        Due.is("free", x.holder(1), -1);
        Due.is("keeps when free", x.keeps(1, 3), 1);
        Due.is("acquire", x.acquire(2, 1), 1);
        Due.is("2 knows", x.knows(2, 0), 1);
        Due.is("2 knows", x.knows(2, 3), 1);
        Due.is("0 does not know of 3", x.knows(0, 3), 0);
    }

    private static void releaseRefused() {
        Due.part("7 release refused");
        ClusterHeap x = new ClusterHeap();
        x.acquire(0, 0);
        for (int n : NONE_OF_FOUR) {
            Due.isFalse("machine", x.release(n, 0));
            Due.isFalse("lock", x.release(0, n));
        }
        Due.isFalse("free lock", x.release(0, 1));
        Due.isFalse("not the holder", x.release(1, 0));
        Due.is("holder", x.holder(0), 0);
        x.acquire(1, 1);
        x.acquire(0, 1);
        Due.isFalse("holder waits", x.release(0, 0));
        x.acquire(2, 2);
        x.arrive(2);
        Due.isFalse("holder at barrier", x.release(2, 2));
        x.acquire(3, 3);
        x.rest(3, 3);
        Due.isFalse("rests and holds no more", x.release(3, 3));
        Due.is("holder", x.holder(0), 0);
        Due.is("holder", x.holder(2), 2);
    }

    private static void restInOrder() {
        Due.part("8 rest");
        ClusterHeap x = new ClusterHeap();
        int[] order = {2, 0, 3, 1};
        for (int m : order) {
            Due.is("acquire", x.acquire(m, 2), 1);
            x.write(m, m, 1);
            Due.isTrue("rest", x.rest(m, 2));
            Due.is("state", x.state(m), 3);
            Due.is("free", x.holder(2), -1);
            Due.is("keeps", x.keeps(2, m), 1);
        }
        Due.is("how many", x.waits(2, true, -1), 4);
        for (int k = 0; k < 4; k++) {
            Due.is("k-th", x.waits(2, true, k), order[k]);
        }
        Due.is("nobody runs", x.total(2), 0);
        Due.is("row is empty", x.waits(2, false, -1), 0);
    }

    private static void restHandsOn() {
        Due.part("8 rest hands on");
        ClusterHeap x = new ClusterHeap();
        x.acquire(0, 0);
        x.acquire(0, 1);
        x.write(0, 9, 4);
        x.acquire(1, 0);
        Due.isTrue("rest", x.rest(0, 0));
        Due.is("holder", x.holder(0), 1);
        Due.is("runs", x.state(1), 0);
        Due.is("knows", x.knows(1, 0), 1);
        Due.is("keeps", x.keeps(0, 0), 1);
        Due.is("the other lock is held", x.holder(1), 0);
        Due.is("row", x.waits(0, false, -1), 0);
        Due.isFalse("holder rests", x.release(0, 1));
    }

    private static void restRefused() {
        Due.part("8 rest refused");
        ClusterHeap x = new ClusterHeap();
        x.acquire(0, 0);
        for (int n : NONE_OF_FOUR) {
            Due.isFalse("machine", x.rest(n, 0));
            Due.isFalse("lock", x.rest(0, n));
        }
        Due.isFalse("free lock", x.rest(0, 1));
        Due.isFalse("not the holder", x.rest(1, 0));
        Due.is("state", x.state(1), 0);
        x.arrive(0);
        Due.isFalse("does not run", x.rest(0, 0));
        Due.is("state", x.state(0), 2);
        Due.is("nobody rests", x.waits(0, true, -1), 0);
        Due.is("holder", x.holder(0), 0);
    }

    private static void wakeOneAndAll() {
        Due.part("9 wake");
        ClusterHeap x = new ClusterHeap();
        for (int m = 0; m < 3; m++) {
            x.acquire(m, 3);
            x.rest(m, 3);
        }
        x.acquire(3, 3);
        Due.is("wake one", x.wake(3, 3, false), 1);
        Due.is("state", x.state(0), 1);
        Due.is("state", x.state(1), 3);
        Due.is("rest", x.waits(3, true, -1), 2);
        Due.is("rest first", x.waits(3, true, 0), 1);
        Due.is("row first", x.waits(3, false, 0), 0);
        Due.is("wake all", x.wake(3, 3, true), 2);
        Due.is("rest", x.waits(3, true, -1), 0);
        for (int k = 0; k < 3; k++) {
            Due.is("row", x.waits(3, false, k), k);
            Due.is("state", x.state(k), 1);
        }
        Due.is("wake none", x.wake(3, 3, false), 0);
        Due.is("wake none", x.wake(3, 3, true), 0);
        Due.is("holder", x.holder(3), 3);

        ClusterHeap y = new ClusterHeap();
        y.acquire(0, 0);
        y.rest(0, 0);
        y.acquire(1, 0);
        y.acquire(2, 0);
        Due.is("wake", y.wake(1, 0, false), 1);
        Due.is("behind those that wait", y.waits(0, false, 1), 0);
        y.release(1, 0);
        Due.is("holder", y.holder(0), 2);
        y.release(2, 0);
        Due.is("holder", y.holder(0), 0);
        Due.is("runs", y.state(0), 0);
    }

    private static void wakeTellsNothing() {
        Due.part("9 wake and knowledge");
        ClusterHeap x = new ClusterHeap();
        x.acquire(0, 0);
        x.rest(0, 0);
        x.acquire(1, 0);
        x.write(1, 0, 1);
        x.wake(1, 0, true);
        Due.is("not yet", x.knows(0, 1), 0);
        x.write(1, 1, 1);
        x.release(1, 0);
        Due.is("with the lock", x.knows(0, 1), 2);
    }

    private static void wakeRefused() {
        Due.part("9 wake refused");
        ClusterHeap x = new ClusterHeap();
        x.acquire(0, 0);
        x.rest(0, 0);
        Due.is("free lock", x.wake(1, 0, true), -1);
        x.acquire(1, 0);
        for (int n : NONE_OF_FOUR) {
            Due.is("machine", x.wake(n, 0, true), -1);
            Due.is("lock", x.wake(1, n, false), -1);
        }
        Due.is("not the holder", x.wake(2, 0, true), -1);
        x.acquire(2, 1);
        x.acquire(1, 1);
        Due.is("does not run", x.wake(1, 0, true), -1);
        Due.is("still rests", x.state(0), 3);
        Due.is("rests", x.waits(0, true, -1), 1);
    }

    private static void arriveOpens() {
        Due.part("10 arrive");
        ClusterHeap x = new ClusterHeap();
        for (int m = 0; m < 4; m++) {
            x.write(m, m * 8, m + 1);
        }
        for (int round = 1; round <= 2; round++) {
            for (int i = 0; i < 3; i++) {
                Due.is("arrive", x.arrive((i + round) % 4), 0);
                Due.is("state", x.state((i + round) % 4), 2);
                Due.is("run", x.total(2), 3 - i);
                Due.is("rounds", x.total(1), round - 1);
            }
            Due.is("knows before", x.knows(0, 1), round == 1 ? 0 : 1);
            Due.is("arrive", x.arrive((3 + round) % 4), 1);
            Due.is("rounds", x.total(1), round);
            Due.is("run", x.total(2), 4);
            for (int m = 0; m < 4; m++) {
                Due.is("state", x.state(m), 0);
                for (int o = 0; o < 4; o++) {
                    Due.is("knows", x.knows(m, o), 1);
                    Due.is("locks keep nothing", x.keeps(m, o), 0);
                }
            }
        }
        Due.is("read", x.read(0, 24), 4);
        Due.is("not known", x.knows(1, 0), 1);
    }

    private static void arriveWithLocks() {
        Due.part("10 arrive with locks");
        ClusterHeap x = new ClusterHeap();
        x.acquire(0, 0);
        x.acquire(1, 0);
        Due.is("arrive", x.arrive(0), 0);
        Due.is("waiter", x.arrive(1), -1);
        Due.is("arrive", x.arrive(2), 0);
        Due.is("arrive", x.arrive(3), 0);
        Due.is("rounds", x.total(1), 0);
        Due.is("nobody runs", x.total(2), 0);
        Due.is("holder", x.holder(0), 0);

        ClusterHeap y = new ClusterHeap();
        y.acquire(3, 2);
        y.arrive(3);
        y.arrive(2);
        y.arrive(1);
        Due.is("arrive", y.arrive(0), 1);
        Due.is("still held", y.holder(2), 3);
        Due.isTrue("release", y.release(3, 2));
    }

    private static void arriveRefused() {
        Due.part("10 arrive refused");
        ClusterHeap x = new ClusterHeap();
        for (int n : NONE_OF_FOUR) {
            Due.is("machine", x.arrive(n), -1);
        }
        x.arrive(0);
        Due.is("there already", x.arrive(0), -1);
        x.acquire(1, 0);
        x.rest(1, 0);
        Due.is("rests", x.arrive(1), -1);
        Due.is("state", x.state(1), 3);
        x.arrive(2);
        x.arrive(3);
        Due.is("rounds", x.total(1), 0);
    }

    private static void stateAndHolderRefused() {
        Due.part("13, 14 state and holder");
        ClusterHeap x = new ClusterHeap();
        for (int n : NONE_OF_FOUR) {
            Due.is("state", x.state(n), -1);
            Due.is("holder", x.holder(n), -1);
            Due.is("ring", x.ring(n), -1);
        }
        for (int lock = 0; lock < 4; lock++) {
            Due.is("free", x.holder(lock), -1);
            x.acquire(3 - lock, lock);
            Due.is("held", x.holder(lock), 3 - lock);
        }
    }

    private static void waitsOfRows() {
        Due.part("15 waits");
        ClusterHeap x = new ClusterHeap();
        x.acquire(0, 1);
        x.rest(0, 1);
        x.acquire(1, 1);
        x.acquire(3, 1);
        x.acquire(2, 1);
        Due.is("row", x.waits(1, false, -1), 2);
        Due.is("row 0", x.waits(1, false, 0), 3);
        Due.is("row 1", x.waits(1, false, 1), 2);
        Due.is("row 2", x.waits(1, false, 2), -1);
        Due.is("rests", x.waits(1, true, -1), 1);
        Due.is("rests 0", x.waits(1, true, 0), 0);
        Due.is("rests 1", x.waits(1, true, 1), -1);
        Due.is("k -2", x.waits(1, false, -2), -1);
        Due.is("k least", x.waits(1, true, Integer.MIN_VALUE), -1);
        Due.is("k greatest", x.waits(1, false, Integer.MAX_VALUE), -1);
        for (int n : NONE_OF_FOUR) {
            Due.is("lock", x.waits(n, false, 0), -1);
            Due.is("lock", x.waits(n, true, -1), -1);
            Due.is("lock", x.waits(n, false, -1), -1);
        }
        x.release(1, 1);
        Due.is("row moves up", x.waits(1, false, 0), 2);
        Due.is("row", x.waits(1, false, -1), 1);
        Due.is("gone", x.waits(1, false, 1), -1);
    }

    private static void ringsOfMachines() {
        Due.part("16 ring");
        ClusterHeap x = new ClusterHeap();
        for (int m = 0; m < 4; m++) {
            x.acquire(m, m);
        }
        for (int m = 0; m < 3; m++) {
            x.acquire(m, m + 1);
            Due.is("no ring yet", x.ring(m), 0);
        }
        x.acquire(3, 0);
        for (int m = 0; m < 4; m++) {
            Due.is("ring of four", x.ring(m), 1);
        }

        ClusterHeap y = new ClusterHeap();
        y.acquire(0, 0);
        y.acquire(1, 1);
        y.acquire(2, 2);
        y.acquire(3, 0);
        y.acquire(0, 1);
        y.acquire(1, 2);
        y.acquire(2, 0);
        Due.is("ring of three", y.ring(0), 1);
        Due.is("ring of three", y.ring(1), 1);
        Due.is("ring of three", y.ring(2), 1);
        Due.is("leads to a ring only", y.ring(3), 0);
    }

    private static void ringNeedsWaiting() {
        Due.part("16 ring needs waiting");
        ClusterHeap x = new ClusterHeap();
        x.acquire(0, 0);
        x.acquire(1, 1);
        x.acquire(0, 2);
        x.acquire(1, 0);
        x.rest(0, 2);
        Due.is("holder rests", x.ring(1), 0);
        Due.is("rests", x.ring(0), 0);

        ClusterHeap y = new ClusterHeap();
        y.acquire(0, 0);
        y.acquire(0, 1);
        y.acquire(1, 0);
        y.release(0, 0);
        y.acquire(0, 0);
        Due.is("1 runs", y.ring(0), 0);
        Due.is("1 runs", y.ring(1), 0);
        y.acquire(1, 1);
        Due.is("ring", y.ring(0), 1);

        // 0 waited for lock 2 once: what it waits for now counts.
        ClusterHeap z = new ClusterHeap();
        z.acquire(1, 2);
        z.acquire(0, 2);
        z.release(1, 2);
        z.acquire(1, 2);
        z.arrive(0);
        Due.is("at the barrier", z.ring(0), 0);
        Due.is("waits for it", z.ring(1), 0);
    }
}

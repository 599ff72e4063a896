/** Promises 11 (refresh), 12 (tidy), 17 to 23 (has, stale, knows, keeps, count, races, total), and of 24 OWNS. */
public final class PageTest {
    private static final int[] NONE_OF_FOUR = {-1, 4, Integer.MIN_VALUE, Integer.MAX_VALUE};
    private static final int[] NO_PAGES = {-1, 8, Integer.MIN_VALUE, Integer.MAX_VALUE};

    public static void main(String[] args) {
        refreshOfStalePages();
        refreshLeavesStrictPages();
        refreshRefused();
        tidyDropsAll();
        tidyRefused();
        tidyForgets();
        tidyWhileMachinesStandStill();
        hasAndOwns();
        ownsByKeptOnly();
        losesPages();
        strictFetches();
        hasRefused();
        staleOnlyByKnownWrites();
        staleOfSinglePages();
        fetchMovesDifferentWords();
        writeToStalePageFetches();
        knowsAndKeeps();
        countsAndTotals();
        Due.end();
    }

    private static void refreshOfStalePages() {
        Due.part("11 refresh");
        ClusterHeap x = new ClusterHeap();
        Due.is("none", x.refresh(0), 0);
        x.write(0, 0, 1);
        x.write(0, 7, 1);
        x.write(0, 7, 2);
        x.write(0, 63, 3);
        x.read(0, 30);
        arriveAll(x);
        Due.is("own writes", x.refresh(0), 0);
        Due.is("refresh", x.refresh(1), 2);
        Due.is("fetched", x.count(1, 0), 2);
        Due.is("moved", x.count(1, 1), 3);
        Due.is("no access", x.count(1, 3), 0);
        Due.is("again", x.refresh(1), 0);
        Due.is("fetched", x.count(1, 0), 2);
        Due.is("read", x.read(1, 7), 2);
        Due.is("not fetched again", x.count(1, 0), 2);
        Due.is("others are stale yet", x.stale(2, 7), 1);
        Due.is("kept", x.total(0), 6);
    }

    private static void refreshLeavesStrictPages() {
        Due.part("11 refresh and strict pages");
        ClusterHeap x = new ClusterHeap();
        x.mode(0, true);
        x.write(0, 0, 1);
        x.write(0, 8, 1);
        arriveAll(x);
        Due.is("refresh", x.refresh(1), 1);
        Due.is("moved", x.count(1, 1), 1);
        Due.is("has", x.has(1, 0), 0);
    }

    private static void refreshRefused() {
        Due.part("11 refresh refused");
        ClusterHeap x = new ClusterHeap();
        x.write(1, 0, 1);
        arriveAll(x);
        for (int n : NONE_OF_FOUR) {
            Due.is("machine", x.refresh(n), -1);
        }
        x.arrive(0);
        Due.is("barrier", x.refresh(0), -1);
        Due.is("stale", x.stale(0, 0), 1);
        x.acquire(1, 0);
        x.acquire(2, 0);
        Due.is("waits", x.refresh(2), -1);
        x.acquire(3, 1);
        x.rest(3, 1);
        Due.is("rests", x.refresh(3), -1);
        Due.is("fetched", x.count(3, 0), 0);
    }

    private static void tidyDropsAll() {
        Due.part("12 tidy");
        ClusterHeap x = new ClusterHeap();
        Due.is("nothing kept", x.tidy(), 0);
        x.write(0, 0, 1);
        x.write(1, 0, 2);
        x.write(0, 1, 3);
        x.write(1, 63, 4);
        x.add(2, 40, 5);
        x.read(3, 5);
        arriveAll(x);
        Due.is("stale", x.stale(0, 0), 1);
        Due.is("tidy", x.tidy(), 6);
        Due.is("kept", x.total(0), 0);
        Due.is("rounds stay", x.total(1), 1);
        for (int m = 0; m < 4; m++) {
            Due.is("moved", x.count(m, 1), 0);
            Due.is("fetched", x.count(m, 0), 0);
            Due.is("stale", x.stale(m, 0), 0);
            Due.is("read", x.read(m, 0), 2);
            Due.is("read", x.read(m, 1), 3);
            Due.is("read", x.read(m, 63), 4);
            Due.is("read", x.read(m, 40), 5);
            Due.is("read", x.read(m, 2), 0);
            Due.is("moved", x.count(m, 1), 0);
        }
        Due.is("races", x.races(0), 1);
        Due.is("tidy again", x.tidy(), -1);
        arriveAll(x);
        Due.is("tidy again", x.tidy(), 20);
        Due.is("words stay without a write", x.read(0, 0), 2);
    }

    private static void tidyRefused() {
        Due.part("12 tidy refused");
        ClusterHeap x = new ClusterHeap();
        x.read(0, 0);
        Due.is("a read nobody knows", x.tidy(), -1);
        x.acquire(0, 0);
        x.release(0, 0);
        for (int m = 1; m < 4; m++) {
            Due.is("one does not know", x.tidy(), -1);
            x.acquire(m, 0);
            x.release(m, 0);
        }
        Due.is("kept", x.total(0), 1);
        Due.is("all know", x.tidy(), 1);

        ClusterHeap y = new ClusterHeap();
        y.write(0, 0, 1);
        arriveAll(y);
        y.write(1, 1, 2);
        Due.is("the last is not known", y.tidy(), -1);
        Due.is("kept", y.total(0), 2);
        Due.is("stale", y.stale(2, 0), 1);
        Due.is("knows", y.knows(2, 0), 1);
        Due.is("read", y.read(2, 0), 1);
        Due.is("moved", y.count(2, 1), 1);
    }

    private static void tidyForgets() {
        Due.part("12 tidy forgets");
        ClusterHeap x = new ClusterHeap();
        x.mode(1, true);
        x.write(0, 8, 1);
        x.write(0, 0, 1);
        x.acquire(0, 2);
        x.release(0, 2);
        arriveAll(x);
        Due.is("keeps", x.keeps(2, 0), 2);
        Due.is("has", x.has(0, 1), 2);
        Due.is("tidy", x.tidy(), 2);
        Due.is("keeps", x.keeps(2, 0), 0);
        Due.is("has", x.has(0, 1), 0);
        for (int m = 0; m < 4; m++) {
            Due.is("knows", x.knows(m, 0), 0);
        }
        // New accesses take no knowledge over from the dropped ones.
        x.write(0, 0, 7);
        Due.is("knows", x.knows(1, 0), 0);
        Due.is("keeps", x.keeps(2, 0), 0);
        Due.is("stale", x.stale(1, 0), 0);
        Due.is("read", x.read(1, 0), 1);
        Due.is("races", x.races(0), 1);
        x.acquire(3, 2);
        Due.is("knows", x.knows(3, 0), 0);
    }

    private static void tidyWhileMachinesStandStill() {
        Due.part("12 tidy while machines stand still");
        ClusterHeap x = new ClusterHeap();
        x.write(0, 0, 1);
        arriveAll(x);
        x.acquire(0, 0);
        x.acquire(1, 0);
        x.acquire(2, 1);
        x.rest(2, 1);
        x.arrive(3);
        Due.is("tidy", x.tidy(), 1);
        Due.is("holder", x.holder(0), 0);
        Due.is("waits", x.state(1), 1);
        Due.is("rests", x.state(2), 3);
        Due.is("barrier", x.state(3), 2);
        Due.is("row", x.waits(0, false, 0), 1);
    }

    private static void hasAndOwns() {
        Due.part("17, 24 has");
        ClusterHeap x = new ClusterHeap();
        x.mode(2, true);
        Due.is("nobody", x.has(0, 2), 0);
        x.read(0, 16);
        x.read(1, 23);
        Due.is("readers have it", x.has(0, 2), 1);
        Due.is("readers have it", x.has(1, 2), 1);
        Due.is("2 does not", x.has(2, 2), 0);
        x.write(1, 17, 1);
        Due.is("writer owns", x.has(1, 2), 2);
        Due.is("reader lost it", x.has(0, 2), 0);
        x.read(1, 18);
        Due.is("still owns", x.has(1, 2), 2);
        x.read(0, 16);
        Due.is("owner has it", x.has(1, 2), 1);
        Due.is("reader has it", x.has(0, 2), 1);
        x.read(1, 16);
        Due.is("a read makes no owner", x.has(1, 2), 1);
        x.add(1, 16, 1);
        Due.is("an add does", x.has(1, 2), 2);
        Due.is("and 0 has it not", x.has(0, 2), 0);
        x.write(0, 15, 1);
        x.write(0, 24, 1);
        Due.is("other pages do not matter", x.has(1, 2), 2);
        Due.is("lazy", x.has(0, 1), 3);
        Due.is("lazy", x.has(0, 3), 3);
    }

    private static void ownsByKeptOnly() {
        Due.part("17, 24 owns by what is kept");
        ClusterHeap x = new ClusterHeap();
        x.mode(0, true);
        x.write(0, 0, 1);
        arriveAll(x);
        x.tidy();
        Due.is("owns no more", x.has(0, 0), 0);
        Due.is("read", x.read(0, 0), 1);
        Due.is("has", x.has(0, 0), 1);
        Due.is("fetched again", x.count(0, 0), 2);
        Due.is("moved", x.count(0, 1), 16);
        x.write(1, 0, 2);
        Due.is("lost", x.count(0, 4), 1);
    }

    private static void losesPages() {
        Due.part("21 loses");
        ClusterHeap x = new ClusterHeap();
        x.mode(0, true);
        x.read(0, 0);
        x.read(1, 0);
        x.read(2, 0);
        x.write(0, 3, 1);
        Due.is("writer keeps it", x.count(0, 4), 0);
        Due.is("reader loses it", x.count(1, 4), 1);
        Due.is("reader loses it", x.count(2, 4), 1);
        Due.is("3 had it not", x.count(3, 4), 0);
        x.write(0, 3, 2);
        Due.is("owner writes", x.count(1, 4), 1);
        x.write(3, 3, 2);
        Due.is("owner loses it", x.count(0, 4), 1);
        Due.is("only once", x.count(1, 4), 1);
        x.read(1, 0);
        Due.is("a read takes nothing", x.count(3, 4), 0);
        x.arrive(1);
        x.add(3, 0, 1);
        Due.is("also one that does not run", x.count(1, 4), 2);
        Due.is("writer that has it", x.count(3, 4), 0);

        ClusterHeap y = new ClusterHeap();
        y.read(0, 0);
        y.write(1, 0, 1);
        Due.is("not at a lazy page", y.count(0, 4), 0);
    }

    private static void strictFetches() {
        Due.part("21 strict fetches");
        ClusterHeap x = new ClusterHeap();
        x.mode(0, true);
        x.mode(1, true);
        x.read(0, 0);
        Due.is("fetched", x.count(0, 0), 1);
        Due.is("moved", x.count(0, 1), 8);
        x.read(0, 1);
        x.write(0, 1, 1);
        Due.is("has it", x.count(0, 0), 1);
        x.write(1, 2, 1);
        Due.is("a write fetches", x.count(1, 1), 8);
        x.write(0, 1, 2);
        Due.is("lost and fetched", x.count(0, 0), 2);
        x.write(0, 8, 1);
        Due.is("another page", x.count(0, 0), 3);
        Due.is("moved", x.count(0, 1), 24);
    }

    private static void hasRefused() {
        Due.part("17, 18 refused");
        ClusterHeap x = new ClusterHeap();
        x.mode(0, true);
        for (int n : NONE_OF_FOUR) {
            Due.is("has machine", x.has(n, 0), -1);
            Due.is("has machine", x.has(n, 1), -1);
            Due.is("stale machine", x.stale(n, 0), -1);
        }
        for (int p : NO_PAGES) {
            Due.is("has page", x.has(0, p), -1);
            Due.is("stale page", x.stale(0, p), -1);
        }
        Due.is("has last", x.has(3, 7), 3);
        Due.is("stale last", x.stale(3, 7), 0);
    }

    private static void staleOnlyByKnownWrites() {
        Due.part("18 stale");
        ClusterHeap x = new ClusterHeap();
        x.write(0, 0, 1);
        Due.is("own", x.stale(0, 0), 0);
        Due.is("unknown", x.stale(1, 0), 0);
        x.read(0, 8);
        arriveAll(x);
        Due.is("own", x.stale(0, 0), 0);
        Due.is("known", x.stale(1, 0), 1);
        Due.is("a read makes none", x.stale(1, 1), 0);
        x.read(1, 7);
        Due.is("another word fetched it", x.stale(1, 0), 0);
        Due.is("2 is stale yet", x.stale(2, 0), 1);
        x.write(0, 0, 2);
        Due.is("not known yet", x.stale(1, 0), 0);
        arriveAll(x);
        Due.is("stale again", x.stale(1, 0), 1);
    }

    private static void staleOfSinglePages() {
        Due.part("18 stale by page");
        ClusterHeap x = new ClusterHeap();
        x.write(0, 7, 1);
        x.write(0, 16, 1);
        arriveAll(x);
        int[] due = {1, 0, 1, 0, 0, 0, 0, 0};
        for (int p = 0; p < 8; p++) {
            Due.is("page " + p, x.stale(3, p), due[p]);
        }
        x.read(3, 8);
        Due.is("an access elsewhere", x.stale(3, 0), 1);
        Due.is("fetched nothing", x.count(3, 0), 0);
    }

    private static void fetchMovesDifferentWords() {
        Due.part("21 words moved");
        ClusterHeap x = new ClusterHeap();
        x.write(0, 0, 1);
        x.write(0, 0, 2);
        x.write(2, 0, 3);
        x.write(2, 3, 3);
        x.add(2, 7, 3);
        x.read(2, 5);
        arriveAll(x);
        Due.is("read", x.read(1, 5), 0);
        Due.is("moved", x.count(1, 1), 3);
        Due.is("fetched", x.count(1, 0), 1);
        Due.is("0 sees the words of 2", x.read(0, 0), 3);
        Due.is("moved", x.count(0, 1), 3);
        Due.is("2 sees the word of 0", x.read(2, 0), 3);
        Due.is("moved", x.count(2, 1), 1);
        x.write(0, 0, 9);
        x.write(0, 1, 9);
        arriveAll(x);
        x.read(1, 0);
        Due.is("only the new ones", x.count(1, 1), 5);
        Due.is("fetched", x.count(1, 0), 2);
    }

    private static void writeToStalePageFetches() {
        Due.part("21 write fetches");
        ClusterHeap x = new ClusterHeap();
        x.write(0, 0, 1);
        x.write(0, 1, 2);
        arriveAll(x);
        Due.is("write", x.write(1, 0, 5), 0);
        Due.is("fetched", x.count(1, 0), 1);
        Due.is("moved", x.count(1, 1), 2);
        Due.is("stale", x.stale(1, 0), 0);
        Due.is("read", x.read(1, 0), 5);
        Due.is("read", x.read(1, 1), 2);
    }

    private static void knowsAndKeeps() {
        Due.part("19, 20 knows and keeps");
        ClusterHeap x = new ClusterHeap();
        for (int n : NONE_OF_FOUR) {
            Due.is("knows", x.knows(n, 0), -1);
            Due.is("knows", x.knows(0, n), -1);
            Due.is("keeps", x.keeps(n, 0), -1);
            Due.is("keeps", x.keeps(0, n), -1);
        }
        x.read(3, 0);
        x.write(3, 0, 1);
        x.add(3, 0, 1);
        Due.is("own", x.knows(3, 3), 3);
        Due.is("not of others", x.knows(0, 3), 0);
        x.acquire(3, 3);
        x.release(3, 3);
        Due.is("keeps", x.keeps(3, 3), 3);
        Due.is("another lock", x.keeps(2, 3), 0);
        x.write(0, 1, 1);
        x.acquire(0, 3);
        Due.is("knows", x.knows(0, 3), 3);
        Due.is("not the other way", x.knows(3, 0), 0);
        Due.is("lock keeps the old", x.keeps(3, 0), 0);
        x.acquire(0, 2);
        x.release(0, 2);
        Due.is("goes on by another lock", x.keeps(2, 3), 3);
        Due.is("and own", x.keeps(2, 0), 1);
        Due.is("lock 3 does not keep", x.keeps(3, 0), 0);
        x.acquire(1, 2);
        Due.is("knows", x.knows(1, 3), 3);
        Due.is("knows", x.knows(1, 0), 1);
        Due.is("knows", x.knows(1, 1), 0);
    }

    private static void countsAndTotals() {
        Due.part("21, 22, 23 refused and sums");
        ClusterHeap x = new ClusterHeap();
        for (int n : NONE_OF_FOUR) {
            Due.is("count machine", x.count(n, 0), -1);
        }
        int[] noCounts = {-1, 5, Integer.MIN_VALUE, Integer.MAX_VALUE};
        int[] noTotals = {-1, 3, Integer.MIN_VALUE, Integer.MAX_VALUE};
        int[] noWords = {-1, 64, Integer.MIN_VALUE, Integer.MAX_VALUE};
        for (int i = 0; i < 4; i++) {
            Due.is("count what", x.count(0, noCounts[i]), -1);
            Due.is("total what", x.total(noTotals[i]), -1);
            Due.is("races word", x.races(noWords[i]), -1);
        }
        x.write(0, 63, 1);
        x.write(1, 63, 1);
        x.write(1, 62, 1);
        x.read(2, 63);
        Due.is("races", x.races(63), 2);
        Due.is("races", x.races(62), 0);
        Due.is("raced 0", x.count(0, 2), 0);
        Due.is("raced 1", x.count(1, 2), 1);
        Due.is("raced 2", x.count(2, 2), 1);
        Due.is("made 1", x.count(1, 3), 2);
        Due.is("kept", x.total(0), 4);
        arriveAll(x);
        x.read(3, 63);
        x.tidy();
        arriveAll(x);
        x.tidy();
        Due.is("made 1", x.count(1, 3), 2);
        Due.is("moved 3", x.count(3, 1), 2);
        Due.is("fetched 3", x.count(3, 0), 1);
        Due.is("raced 2", x.count(2, 2), 1);
        Due.is("races", x.races(63), 2);
        Due.is("kept", x.total(0), 0);
        Due.is("rounds", x.total(1), 2);
    }

    private static void arriveAll(ClusterHeap x) {
        for (int m = 0; m < 4; m++) {
            x.arrive(m);
        }
    }
}

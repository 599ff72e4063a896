/** Promises 1 to 5 (new object, mode, read, write, add), and of 24 what is said of accesses. */
public final class AccessTest {
    private static final int[] NO_MACHINES = {-1, 4, Integer.MIN_VALUE, Integer.MAX_VALUE};
    private static final int[] NO_WORDS = {-1, 64, Integer.MIN_VALUE, Integer.MAX_VALUE};
    private static final int[] NO_PAGES = {-1, 8, Integer.MIN_VALUE, Integer.MAX_VALUE};

    public static void main(String[] args) {
        newObject();
        newObjectHasZeroWords();
        modeOfPages();
        modeOnlyWithoutAccesses();
        modeLeavesWords();
        readOfOwnAndOthers();
        readOfLatestSeenIsByNumberNotByArrival();
        readOfStrictPage();
        readRefused();
        writeRaces();
        writeRefusedAndFull();
        addIsOneAccess();
        addWraps();
        addRacesAsWrite();
        addRefused();
        racesOnlyWithKept();
        Due.end();
    }

    private static void newObject() {
        Due.part("1 new object");
        ClusterHeap x = new ClusterHeap();
        for (int m = 0; m < 4; m++) {
            Due.is("state", x.state(m), 0);
            Due.is("ring", x.ring(m), 0);
            for (int o = 0; o < 4; o++) {
                Due.is("knows", x.knows(m, o), 0);
                Due.is("keeps", x.keeps(m, o), 0);
            }
            for (int what = 0; what < 5; what++) {
                Due.is("count", x.count(m, what), 0);
            }
            for (int p = 0; p < 8; p++) {
                Due.is("has", x.has(m, p), 3);
                Due.is("stale", x.stale(m, p), 0);
            }
        }
        for (int l = 0; l < 4; l++) {
            Due.is("holder", x.holder(l), -1);
            Due.is("waits row", x.waits(l, false, -1), 0);
            Due.is("waits rests", x.waits(l, true, -1), 0);
        }
        for (int w = 0; w < 64; w++) {
            Due.is("races", x.races(w), 0);
        }
        Due.is("kept", x.total(0), 0);
        Due.is("rounds", x.total(1), 0);
        Due.is("run", x.total(2), 4);
    }

    private static void newObjectHasZeroWords() {
        Due.part("1 words are 0");
        ClusterHeap x = new ClusterHeap();
        for (int w = 0; w < 64; w++) {
            for (int m = 0; m < 4; m++) {
                Due.is("read", x.read(m, w), 0);
            }
        }
        Due.is("kept", x.total(0), 256);
    }

    private static void modeOfPages() {
        Due.part("2 mode");
        ClusterHeap x = new ClusterHeap();
        for (int p = 0; p < 8; p++) {
            Due.isTrue("mode strict", x.mode(p, true));
            Due.is("has", x.has(0, p), 0);
        }
        Due.isTrue("mode again", x.mode(7, true));
        Due.is("has 7", x.has(3, 7), 0);
        Due.isTrue("mode lazy", x.mode(7, false));
        Due.is("has 7", x.has(3, 7), 3);
        Due.is("has 6", x.has(3, 6), 0);
        for (int p : NO_PAGES) {
            Due.isFalse("mode strict", x.mode(p, true));
            Due.isFalse("mode lazy", x.mode(p, false));
        }
        Due.is("has 0", x.has(0, 0), 0);
        Due.is("has 7", x.has(0, 7), 3);
    }

    private static void modeOnlyWithoutAccesses() {
        Due.part("2 mode with accesses");
        ClusterHeap x = new ClusterHeap();
        Due.isTrue("mode 1", x.mode(1, true));
        Due.is("read", x.read(0, 0), 0);
        Due.isFalse("mode 5", x.mode(5, true));
        Due.isFalse("mode 1", x.mode(1, false));
        Due.isFalse("mode 1 as it is", x.mode(1, true));
        Due.is("has 5", x.has(0, 5), 3);
        Due.is("has 1", x.has(0, 1), 0);
        Due.is("tidy", x.tidy(), -1);
        Due.isFalse("mode after refused tidy", x.mode(5, true));
        arriveAll(x);
        Due.is("tidy", x.tidy(), 1);
        Due.isTrue("mode 5", x.mode(5, true));
        Due.isTrue("mode 1", x.mode(1, false));
        Due.is("has 5", x.has(0, 5), 0);
        Due.is("has 1", x.has(0, 1), 3);
    }

    private static void modeLeavesWords() {
        Due.part("2 mode leaves words");
        ClusterHeap x = new ClusterHeap();
        x.write(0, 15, 9);
        arriveAll(x);
        x.tidy();
        Due.isTrue("mode", x.mode(1, true));
        Due.is("read strict", x.read(2, 15), 9);
        x.write(2, 14, -4);
        arriveAll(x);
        x.tidy();
        Due.isTrue("mode", x.mode(1, false));
        Due.is("read lazy", x.read(3, 15), 9);
        Due.is("read lazy", x.read(1, 14), -4);
    }

    private static void readOfOwnAndOthers() {
        Due.part("3 read");
        ClusterHeap x = new ClusterHeap();
        Due.is("write", x.write(0, 63, Integer.MIN_VALUE), 0);
        Due.is("read own", x.read(0, 63), Integer.MIN_VALUE);
        Due.is("write", x.write(0, 63, Integer.MAX_VALUE), 0);
        Due.is("read own", x.read(0, 63), Integer.MAX_VALUE);
        Due.is("read of unknown", x.read(1, 63), 0);
        Due.is("it races", x.count(1, 2), 1);
        x.acquire(0, 0);
        x.release(0, 0);
        x.acquire(1, 0);
        Due.is("read of known", x.read(1, 63), Integer.MAX_VALUE);
        Due.is("it does not race", x.count(1, 2), 1);
        Due.is("moved", x.count(1, 1), 1);
        Due.is("fetched", x.count(1, 0), 1);
        Due.is("made", x.count(1, 3), 2);
        Due.is("write later", x.write(0, 63, 3), 1);
        Due.is("read of not known yet", x.read(1, 63), Integer.MAX_VALUE);
        Due.is("kept", x.total(0), 8);
    }

    private static void readOfLatestSeenIsByNumberNotByArrival() {
        Due.part("3 read gives the greatest number");
        ClusterHeap x = new ClusterHeap();
        x.write(0, 5, 100);
        x.acquire(0, 2);
        x.release(0, 2);
        Due.is("write", x.write(1, 5, 200), 1);
        x.acquire(1, 2);
        Due.is("stale", x.stale(1, 0), 1);
        Due.is("read", x.read(1, 5), 200);
        Due.is("moved", x.count(1, 1), 1);
        Due.is("stale", x.stale(1, 0), 0);
    }

    private static void readOfStrictPage() {
        Due.part("3 read of a strict page");
        ClusterHeap x = new ClusterHeap();
        x.mode(0, true);
        x.write(0, 1, 5);
        Due.is("read of unknown", x.read(1, 1), 5);
        Due.is("it races", x.count(1, 2), 1);
        Due.is("it does not make known", x.knows(1, 0), 0);
        Due.is("never stale", x.stale(1, 0), 0);
        x.write(1, 1, 6);
        Due.is("read", x.read(0, 1), 6);
        Due.is("read other word", x.read(0, 2), 0);
    }

    private static void readRefused() {
        Due.part("3 read refused");
        ClusterHeap x = new ClusterHeap();
        for (int m : NO_MACHINES) {
            Due.is("machine", x.read(m, 0), ClusterHeap.NOTHING);
        }
        for (int w : NO_WORDS) {
            Due.is("word", x.read(0, w), ClusterHeap.NOTHING);
        }
        x.acquire(0, 0);
        x.acquire(1, 0);
        Due.is("waits", x.read(1, 0), ClusterHeap.NOTHING);
        x.acquire(2, 1);
        x.rest(2, 1);
        Due.is("rests", x.read(2, 0), ClusterHeap.NOTHING);
        x.arrive(3);
        Due.is("barrier", x.read(3, 0), ClusterHeap.NOTHING);
        for (int m = 0; m < 4; m++) {
            Due.is("made", x.count(m, 3), 0);
        }
        Due.is("kept", x.total(0), 0);
        fill(x, 0, 0, 300);
        Due.is("full", x.read(0, 0), ClusterHeap.NOTHING);
        Due.is("kept", x.total(0), 300);
        Due.is("made", x.count(0, 3), 300);
    }

    private static void writeRaces() {
        Due.part("4 write");
        ClusterHeap x = new ClusterHeap();
        Due.is("first", x.write(0, 0, 1), 0);
        Due.is("own again", x.write(0, 0, 2), 0);
        Due.is("behind unknown write", x.write(1, 0, 3), 1);
        Due.is("another word of the page", x.write(1, 1, 3), 0);
        x.read(2, 2);
        x.read(3, 2);
        Due.is("two reads do not race", x.races(2), 0);
        Due.is("behind unknown read", x.write(0, 2, 1), 1);
        Due.is("behind own and unknown", x.write(0, 0, 1), 1);
        Due.is("races of 0", x.races(0), 2);
        Due.is("count 0", x.count(0, 2), 2);
        Due.is("count 1", x.count(1, 2), 1);
        x.acquire(1, 3);
        x.release(1, 3);
        x.acquire(0, 3);
        Due.is("all known", x.write(0, 0, 7), 0);
        x.release(0, 3);
        Due.is("not known by 1", x.write(1, 0, 7), 1);
    }

    private static void writeRefusedAndFull() {
        Due.part("4, 24 write refused and full");
        ClusterHeap x = new ClusterHeap();
        x.acquire(1, 0);
        x.rest(1, 0);
        x.arrive(2);
        x.acquire(0, 0);
        x.acquire(3, 0);
        fill(x, 0, 8, 299);
        Due.is("the 300th", x.write(0, 8, 4), 0);
        Due.is("full", x.write(0, 8, 5), ClusterHeap.FULL);
        for (int m : NO_MACHINES) {
            Due.is("machine", x.write(m, 0, 1), ClusterHeap.REFUSED);
        }
        for (int w : NO_WORDS) {
            Due.is("word", x.write(0, w, 1), ClusterHeap.REFUSED);
        }
        Due.is("rests", x.write(1, 0, 1), ClusterHeap.REFUSED);
        Due.is("barrier", x.write(2, 0, 1), ClusterHeap.REFUSED);
        Due.is("waits", x.write(3, 0, 1), ClusterHeap.REFUSED);
        Due.is("kept", x.total(0), 300);
        Due.is("made", x.count(0, 3), 300);
        x.release(0, 0);
        Due.is("stale", x.stale(3, 1), 1);
        Due.is("full", x.write(3, 8, 1), ClusterHeap.FULL);
        Due.is("full read", x.read(3, 8), ClusterHeap.NOTHING);
        Due.is("full add", x.add(3, 8, 1), ClusterHeap.NOTHING);
        Due.is("still stale", x.stale(3, 1), 1);
        Due.is("not fetched", x.count(3, 0), 0);
        Due.is("not raced", x.races(8), 0);
        Due.is("refresh in full", x.refresh(3), 1);
    }

    private static void addIsOneAccess() {
        Due.part("5 add");
        ClusterHeap x = new ClusterHeap();
        Due.is("add", x.add(0, 3, 5), 0);
        Due.is("add", x.add(0, 3, -7), 5);
        Due.is("read", x.read(0, 3), -2);
        Due.is("kept", x.total(0), 3);
        Due.is("made", x.count(0, 3), 3);
        Due.is("knows", x.knows(0, 0), 3);
        x.acquire(0, 0);
        x.release(0, 0);
        x.acquire(1, 0);
        Due.is("add fetches first", x.add(1, 3, 10), -2);
        Due.is("fetched", x.count(1, 0), 1);
        Due.is("moved", x.count(1, 1), 1);
        Due.is("read", x.read(1, 3), 8);

        ClusterHeap y = new ClusterHeap();
        y.mode(0, true);
        y.write(0, 0, 4);
        Due.is("strict add", y.add(1, 0, 1), 4);
        Due.is("fetched once", y.count(1, 0), 1);
        Due.is("moved", y.count(1, 1), 8);
        Due.is("lost", y.count(0, 4), 1);
        Due.is("owns", y.has(1, 0), 2);
        Due.is("strict read", y.read(0, 0), 5);
    }

    private static void addWraps() {
        Due.part("5 add wraps");
        ClusterHeap x = new ClusterHeap();
        x.write(0, 0, Integer.MAX_VALUE);
        Due.is("add", x.add(0, 0, 1), Integer.MAX_VALUE);
        Due.is("add", x.add(0, 0, Integer.MIN_VALUE), Integer.MIN_VALUE);
        Due.is("read", x.read(0, 0), 0);
    }

    private static void addRacesAsWrite() {
        Due.part("5 add races");
        ClusterHeap x = new ClusterHeap();
        x.read(0, 0);
        Due.is("add", x.add(1, 0, 1), 0);
        Due.is("races once", x.races(0), 1);
        Due.is("count 1", x.count(1, 2), 1);
        Due.is("read", x.read(2, 0), 0);
        Due.is("it races with the add", x.count(2, 2), 1);
        Due.is("races", x.races(0), 2);
        Due.is("lazy add does not see unknown", x.add(3, 0, 4), 0);
        Due.is("races", x.races(0), 3);
    }

    private static void addRefused() {
        Due.part("5 add refused");
        ClusterHeap x = new ClusterHeap();
        for (int m : NO_MACHINES) {
            Due.is("machine", x.add(m, 0, 1), ClusterHeap.NOTHING);
        }
        for (int w : NO_WORDS) {
            Due.is("word", x.add(0, w, 1), ClusterHeap.NOTHING);
        }
        x.arrive(3);
        Due.is("barrier", x.add(3, 0, 1), ClusterHeap.NOTHING);
        x.acquire(2, 0);
        x.rest(2, 0);
        Due.is("rests", x.add(2, 0, 1), ClusterHeap.NOTHING);
        x.acquire(0, 0);
        x.acquire(1, 0);
        Due.is("waits", x.add(1, 0, 1), ClusterHeap.NOTHING);
        Due.is("kept", x.total(0), 0);
        Due.is("made", x.count(3, 3), 0);
        fill(x, 0, 0, 300);
        Due.is("full", x.add(0, 0, 1), ClusterHeap.NOTHING);
        Due.is("kept", x.total(0), 300);
    }

    private static void racesOnlyWithKept() {
        Due.part("24 races only with kept accesses");
        ClusterHeap x = new ClusterHeap();
        x.write(0, 0, 1);
        x.write(1, 0, 2);
        arriveAll(x);
        Due.is("tidy", x.tidy(), 2);
        Due.is("write", x.write(2, 0, 3), 0);
        Due.is("races go on", x.races(0), 1);
        Due.is("write", x.write(3, 0, 3), 1);
        Due.is("races go on", x.races(0), 2);
        Due.is("count goes on", x.count(1, 2), 1);
        Due.is("count goes on", x.count(1, 3), 1);

        ClusterHeap y = new ClusterHeap();
        fill(y, 0, 0, 300);
        arriveAll(y);
        Due.is("tidy", y.tidy(), 300);
        Due.is("room again", y.write(1, 0, 1), 0);
        Due.is("kept", y.total(0), 1);
        Due.is("made in all", y.count(0, 3), 300);
    }

    private static void fill(ClusterHeap x, int machine, int word, int times) {
        for (int i = 0; i < times; i++) {
            x.write(machine, word, i);
        }
    }

    private static void arriveAll(ClusterHeap x) {
        for (int m = 0; m < 4; m++) {
            x.arrive(m);
        }
    }
}

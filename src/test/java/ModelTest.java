import java.util.ArrayList;
import java.util.HashSet;
import java.util.List;
import java.util.Set;

/**
 * Compares ClusterHeap with a model that follows the document's terms with sets of accesses, over
 * many runs of at most 512 calls. The calls come from a generator with a fixed start, so each
 * time they are the same.
 */
public final class ModelTest {
    private static final int RUNS_EACH = 400;
    private static final int CALLS = 512;
    private static final int[] ODD = {-1, -2, 4, 5, 8, 64, 300, Integer.MIN_VALUE, Integer.MAX_VALUE};

    private static long seed = 20261115L;

    public static void main(String[] args) {
        for (Profile profile : Profile.values()) {
            for (int run = 0; run < RUNS_EACH; run++) {
                Due.part("model " + profile + " run " + run);
                compareRun(profile);
                if (Due.wrongSoFar() > 20) {
                    Due.end();
                }
            }
        }
        needs("full", Seen.full > 0);
        needs("races", Seen.races > 0);
        needs("tidied accesses", Seen.tidied > 0);
        needs("rings", Seen.rings > 0);
        needs("rounds", Seen.rounds > 0);
        needs("lost pages", Seen.lost > 0);
        needs("stale pages", Seen.stale > 0);
        needs("woken machines", Seen.woken > 0);
        Due.end();
    }

    private static void needs(String what, boolean came) {
        Due.part("model");
        Due.isTrue("runs come to " + what, came);
    }

    /** Weights of the kinds of calls, and how many words and pages are strict or used. */
    private enum Profile {
        MIXED(30, 25, 4, 3, 30, 10, 64),
        CROWDED(35, 25, 4, 2, 30, 4, 10),
        FILLING(75, 6, 0, 1, 15, 2, 64),
        LOCKING(10, 60, 3, 2, 25, 1, 16),
        ROUNDS(30, 4, 30, 8, 25, 2, 24);

        final int access;
        final int lock;
        final int barrier;
        final int tidy;
        final int ask;
        final int odd;
        final int words;

        Profile(int access, int lock, int barrier, int tidy, int ask, int odd, int words) {
            this.access = access;
            this.lock = lock;
            this.barrier = barrier;
            this.tidy = tidy;
            this.ask = ask;
            this.odd = odd;
            this.words = words;
        }
    }

    /** What the runs came to, so that a generator that gets stuck early is found. */
    private static final class Seen {
        static int full;
        static int races;
        static int tidied;
        static int rings;
        static int rounds;
        static int lost;
        static int stale;
        static int woken;
    }

    private static int below(int bound) {
        seed = seed * 6364136223846793005L + 1442695040888963407L;
        return (int) ((seed >>> 33) % bound);
    }

    private static void compareRun(Profile p) {
        ClusterHeap x = new ClusterHeap();
        Model y = new Model();
        int made = 0;
        for (int page = 0; page < 8; page++) {
            if (below(2) == 0) {
                Due.is("mode", x.mode(page, true), y.mode(page, true));
                made++;
            }
        }
        for (; made < CALLS; made++) {
            int kind = below(p.access + p.lock + p.barrier + p.tidy + p.ask);
            if (kind < p.access) {
                access(x, y, machine(y, p), odd(p, below(p.words)), below(3));
            } else if (kind < p.access + p.lock) {
                lock(x, y, machine(y, p), odd(p, below(4)));
            } else if (kind < p.access + p.lock + p.barrier) {
                arrive(x, y, machine(y, p));
            } else if (kind < p.access + p.lock + p.barrier + p.tidy) {
                tidyOrMode(x, y, odd(p, below(8)));
            } else {
                ask(x, y, p);
            }
        }
    }

    private static int odd(Profile p, int usual) {
        return below(100) < p.odd ? ODD[below(ODD.length)] : usual;
    }

    /** Mostly one that runs, so that runs go on. */
    private static int machine(Model y, Profile p) {
        int m = below(4);
        for (int i = 0; i < 4 && y.state[m] != 0 && below(8) != 0; i++) {
            m = (m + 1) % 4;
        }
        return odd(p, m);
    }

    private static void access(ClusterHeap x, Model y, int m, int w, int kind) {
        int v = below(10) == 0 ? Integer.MAX_VALUE - below(3) : below(1000) - 500;
        String call = "(" + m + ", " + w + ", " + v + ")";
        if (kind == 0) {
            Due.is("read" + call, x.read(m, w), y.read(m, w));
        } else if (kind == 1) {
            int due = y.write(m, w, v);
            Seen.full += due == -2 ? 1 : 0;
            Seen.races += due == 1 ? 1 : 0;
            Due.is("write" + call, x.write(m, w, v), due);
        } else {
            Due.is("add" + call, x.add(m, w, v), y.add(m, w, v));
        }
    }

    private static void lock(ClusterHeap x, Model y, int m, int l) {
        // Those that hold a lock give it back most often: else all would soon stand still.
        int own = y.isMachine(m) ? y.lockOf(m) : -1;
        if (own >= 0 && below(5) < 3) {
            int kind = below(6);
            String call = "(" + m + ", " + own + ")";
            if (kind < 3) {
                Due.is("release" + call, x.release(m, own), y.release(m, own));
            } else if (kind < 4 && (y.running() > 1 || below(8) == 0)) {
                Due.is("rest" + call, x.rest(m, own), y.rest(m, own));
            } else {
                wake(x, y, m, own);
            }
            return;
        }
        int kind = below(8);
        String call = "(" + m + ", " + l + ")";
        if (kind < 5) {
            Due.is("acquire" + call, x.acquire(m, l), y.acquire(m, l));
        } else if (kind == 5) {
            Due.is("release" + call, x.release(m, l), y.release(m, l));
        } else if (kind == 6 && y.running() > 1) {
            Due.is("rest" + call, x.rest(m, l), y.rest(m, l));
        } else {
            wake(x, y, m, l);
        }
    }

    private static void wake(ClusterHeap x, Model y, int m, int l) {
        boolean all = below(2) == 0;
        int due = y.wake(m, l, all);
        Seen.woken += due > 0 ? due : 0;
        Due.is("wake(" + m + ", " + l + ", " + all + ")", x.wake(m, l, all), due);
    }

    private static void arrive(ClusterHeap x, Model y, int m) {
        int due = y.arrive(m);
        Seen.rounds += due == 1 ? 1 : 0;
        Due.is("arrive(" + m + ")", x.arrive(m), due);
    }

    private static void tidyOrMode(ClusterHeap x, Model y, int page) {
        if (below(3) > 0) {
            int due = y.tidy();
            Seen.tidied += due > 0 ? 1 : 0;
            Due.is("tidy()", x.tidy(), due);
        } else {
            boolean strict = below(2) == 0;
            Due.is("mode(" + page + ", " + strict + ")", x.mode(page, strict), y.mode(page, strict));
        }
    }

    private static void ask(ClusterHeap x, Model y, Profile p) {
        int m = odd(p, below(4));
        int o = odd(p, below(4));
        int page = odd(p, below((p.words + 7) / 8));
        String call = "(" + m + ", " + o + ") or page " + page;
        switch (below(12)) {
            case 0 -> Due.is("state" + call, x.state(m), y.state(m));
            case 1 -> Due.is("holder" + call, x.holder(m), y.holder(m));
            case 2 -> {
                boolean rests = below(2) == 0;
                int k = odd(p, below(6) - 1);
                Due.is("waits(" + m + ", " + rests + ", " + k + ")", x.waits(m, rests, k), y.waits(m, rests, k));
            }
            case 3 -> {
                int due = y.ring(m);
                Seen.rings += due == 1 ? 1 : 0;
                Due.is("ring" + call, x.ring(m), due);
            }
            case 4 -> Due.is("has" + call, x.has(m, page), y.has(m, page));
            case 5 -> {
                int due = y.stale(m, page);
                Seen.stale += due == 1 ? 1 : 0;
                Due.is("stale" + call, x.stale(m, page), due);
            }
            case 6 -> Due.is("knows" + call, x.knows(m, o), y.knows(m, o));
            case 7 -> Due.is("keeps" + call, x.keeps(m, o), y.keeps(m, o));
            case 8, 9 -> {
                int what = odd(p, below(5));
                int due = y.count(m, what);
                Seen.lost += what == 4 && due > 0 ? 1 : 0;
                Due.is("count(" + m + ", " + what + ")", x.count(m, what), due);
            }
            case 10 -> {
                int word = odd(p, below(p.words));
                Due.is("races(" + word + ")", x.races(word), y.races(word));
            }
            default -> {
                if (below(2) == 0) {
                    Due.is("refresh" + call, x.refresh(m), y.refresh(m));
                } else {
                    int what = odd(p, below(3));
                    Due.is("total(" + what + ")", x.total(what), y.total(what));
                }
            }
        }
    }

    private static final class Access {
        final int number;
        final int machine;
        final int word;
        final boolean write;
        final int value;

        Access(int number, int machine, int word, boolean write, int value) {
            this.number = number;
            this.machine = machine;
            this.word = word;
            this.write = write;
            this.value = value;
        }

        int page() {
            return word / 8;
        }
    }

    /** The document's terms, said as they stand there, with no thought for speed. */
    private static final class Model {
        final int[] state = new int[4];
        final int[] holder = {-1, -1, -1, -1};
        final int[] words = new int[64];
        final int[] races = new int[64];
        final boolean[] strict = new boolean[8];
        final int[][] counts = new int[4][5];
        final List<Access> kept = new ArrayList<>();
        final List<Set<Access>> known = sets();
        final List<Set<Access>> seen = sets();
        final List<Set<Access>> lockKeeps = sets();
        final List<List<Integer>> rows = lists();
        final List<List<Integer>> resting = lists();
        int number = 0;
        int rounds = 0;

        private static List<Set<Access>> sets() {
            List<Set<Access>> all = new ArrayList<>();
            for (int i = 0; i < 4; i++) {
                all.add(new HashSet<>());
            }
            return all;
        }

        private static List<List<Integer>> lists() {
            List<List<Integer>> all = new ArrayList<>();
            for (int i = 0; i < 4; i++) {
                all.add(new ArrayList<>());
            }
            return all;
        }

        boolean isMachine(int m) {
            return 0 <= m && m <= 3;
        }

        private boolean isLock(int l) {
            return 0 <= l && l <= 3;
        }

        private boolean isPage(int p) {
            return 0 <= p && p <= 7;
        }

        private boolean isWord(int w) {
            return 0 <= w && w <= 63;
        }

        private boolean runs(int m) {
            return isMachine(m) && state[m] == 0;
        }

        private boolean runsAndHolds(int m, int l) {
            return runs(m) && isLock(l) && holder[l] == m;
        }

        int running() {
            int n = 0;
            for (int s : state) {
                n += s == 0 ? 1 : 0;
            }
            return n;
        }

        int lockOf(int m) {
            int from = below(4);
            for (int i = 0; i < 4; i++) {
                if (holder[(from + i) % 4] == m) {
                    return (from + i) % 4;
                }
            }
            return -1;
        }

        boolean mode(int page, boolean isStrict) {
            if (!isPage(page) || !kept.isEmpty()) {
                return false;
            }
            strict[page] = isStrict;
            return true;
        }

        private Access latestOtherWrite(int m, int page) {
            Access latest = null;
            for (Access a : kept) {
                if (a.write && a.machine != m && a.page() == page) {
                    latest = a;
                }
            }
            return latest;
        }

        private boolean hasPage(int m, int page) {
            Access latest = latestOtherWrite(m, page);
            for (Access a : kept) {
                if (a.machine == m && a.page() == page && (latest == null || a.number > latest.number)) {
                    return true;
                }
            }
            return false;
        }

        private boolean owns(int m, int page) {
            for (Access a : kept) {
                if (a.write && a.machine == m && a.page() == page && !otherAccessSince(a)) {
                    return true;
                }
            }
            return false;
        }

        private boolean otherAccessSince(Access a) {
            for (Access b : kept) {
                if (b.number > a.number && b.machine != a.machine && b.page() == a.page()) {
                    return true;
                }
            }
            return false;
        }

        private Set<Access> unseen(int m, int page) {
            Set<Access> result = new HashSet<>();
            for (Access a : known.get(m)) {
                if (a.write && a.page() == page && !seen.get(m).contains(a)) {
                    result.add(a);
                }
            }
            return result;
        }

        private boolean isStale(int m, int page) {
            return !strict[page] && !unseen(m, page).isEmpty();
        }

        private void fetchLazy(int m, int page) {
            Set<Integer> moved = new HashSet<>();
            for (Access a : unseen(m, page)) {
                moved.add(a.word);
                seen.get(m).add(a);
            }
            counts[m][0]++;
            counts[m][1] += moved.size();
        }

        private int valueOf(int m, int word) {
            Access latest = null;
            for (Access a : kept) {
                boolean counts = strict[word / 8] || seen.get(m).contains(a);
                if (a.write && a.word == word && counts && (latest == null || a.number > latest.number)) {
                    latest = a;
                }
            }
            return latest == null ? words[word] : latest.value;
        }

        private boolean doesRace(Access a) {
            for (Access b : kept) {
                if (b.machine != a.machine && b.word == a.word && (a.write || b.write)
                    && !known.get(a.machine).contains(b)) {
                    return true;
                }
            }
            return false;
        }

        /** Fetches, takes the page from others, and keeps the access: what was read, and if it raced. */
        private long[] make(int m, int w, boolean writes, boolean addsToOld, int v) {
            int page = w / 8;
            if (isStale(m, page)) {
                fetchLazy(m, page);
            }
            if (strict[page] && !hasPage(m, page)) {
                counts[m][0]++;
                counts[m][1] += 8;
            }
            int old = valueOf(m, w);
            if (strict[page] && writes && !owns(m, page)) {
                for (int o = 0; o < 4; o++) {
                    if (o != m && hasPage(o, page)) {
                        counts[o][4]++;
                    }
                }
            }
            Access a = new Access(number++, m, w, writes, addsToOld ? old + v : v);
            boolean raced = doesRace(a);
            if (raced) {
                counts[m][2]++;
                races[w]++;
            }
            counts[m][3]++;
            kept.add(a);
            known.get(m).add(a);
            if (writes) {
                seen.get(m).add(a);
            }
            return new long[] {old, raced ? 1 : 0};
        }

        long read(int m, int w) {
            if (!runs(m) || !isWord(w) || kept.size() == 300) {
                return -10000000000L;
            }
            return make(m, w, false, false, 0)[0];
        }

        int write(int m, int w, int v) {
            if (!runs(m) || !isWord(w)) {
                return -1;
            }
            if (kept.size() == 300) {
                return -2;
            }
            return (int) make(m, w, true, false, v)[1];
        }

        long add(int m, int w, int v) {
            if (!runs(m) || !isWord(w) || kept.size() == 300) {
                return -10000000000L;
            }
            return make(m, w, true, true, v)[0];
        }

        private void gets(int m, int l) {
            holder[l] = m;
            state[m] = 0;
            known.get(m).addAll(lockKeeps.get(l));
        }

        private void givesBack(int m, int l) {
            lockKeeps.set(l, new HashSet<>(known.get(m)));
            holder[l] = -1;
            if (!rows.get(l).isEmpty()) {
                gets(rows.get(l).remove(0), l);
            }
        }

        int acquire(int m, int l) {
            if (!runs(m) || !isLock(l) || holder[l] == m) {
                return -1;
            }
            if (holder[l] == -1) {
                gets(m, l);
                return 1;
            }
            state[m] = 1;
            rows.get(l).add(m);
            return 0;
        }

        boolean release(int m, int l) {
            if (!runsAndHolds(m, l)) {
                return false;
            }
            givesBack(m, l);
            return true;
        }

        boolean rest(int m, int l) {
            if (!runsAndHolds(m, l)) {
                return false;
            }
            givesBack(m, l);
            state[m] = 3;
            resting.get(l).add(m);
            return true;
        }

        int wake(int m, int l, boolean all) {
            if (!runsAndHolds(m, l)) {
                return -1;
            }
            int woken = 0;
            while (!resting.get(l).isEmpty() && (all || woken == 0)) {
                int next = resting.get(l).remove(0);
                state[next] = 1;
                rows.get(l).add(next);
                woken++;
            }
            return woken;
        }

        int arrive(int m) {
            if (!runs(m)) {
                return -1;
            }
            state[m] = 2;
            Set<Access> together = new HashSet<>();
            for (int i = 0; i < 4; i++) {
                if (state[i] != 2) {
                    return 0;
                }
                together.addAll(known.get(i));
            }
            for (int i = 0; i < 4; i++) {
                state[i] = 0;
                known.get(i).addAll(together);
            }
            rounds++;
            return 1;
        }

        int refresh(int m) {
            if (!runs(m)) {
                return -1;
            }
            int fetched = 0;
            for (int page = 0; page < 8; page++) {
                if (isStale(m, page)) {
                    fetchLazy(m, page);
                    fetched++;
                }
            }
            return fetched;
        }

        int tidy() {
            for (int m = 0; m < 4; m++) {
                if (!known.get(m).containsAll(kept)) {
                    return -1;
                }
            }
            for (Access a : kept) {
                if (a.write) {
                    words[a.word] = a.value;
                }
            }
            for (int i = 0; i < 4; i++) {
                known.get(i).clear();
                seen.get(i).clear();
                lockKeeps.get(i).clear();
            }
            int dropped = kept.size();
            kept.clear();
            return dropped;
        }

        int state(int m) {
            return isMachine(m) ? state[m] : -1;
        }

        int holder(int l) {
            return isLock(l) ? holder[l] : -1;
        }

        int waits(int l, boolean rests, int k) {
            if (!isLock(l)) {
                return -1;
            }
            List<Integer> line = rests ? resting.get(l) : rows.get(l);
            if (k == -1) {
                return line.size();
            }
            return k >= 0 && k < line.size() ? line.get(k) : -1;
        }

        /** Follows from holder to holder, and keeps the machines that were passed. */
        int ring(int m) {
            if (!isMachine(m)) {
                return -1;
            }
            Set<Integer> passed = new HashSet<>();
            int at = m;
            while (passed.add(at)) {
                int lock = -1;
                for (int l = 0; l < 4; l++) {
                    lock = rows.get(l).contains(at) ? l : lock;
                }
                if (lock == -1) {
                    return 0;
                }
                at = holder[lock];
            }
            return at == m ? 1 : 0;
        }

        int has(int m, int page) {
            if (!isMachine(m) || !isPage(page)) {
                return -1;
            }
            if (!strict[page]) {
                return 3;
            }
            return owns(m, page) ? 2 : hasPage(m, page) ? 1 : 0;
        }

        int stale(int m, int page) {
            if (!isMachine(m) || !isPage(page)) {
                return -1;
            }
            return isStale(m, page) ? 1 : 0;
        }

        private int of(Set<Access> accesses, int other) {
            int n = 0;
            for (Access a : accesses) {
                n += a.machine == other ? 1 : 0;
            }
            return n;
        }

        int knows(int m, int o) {
            return isMachine(m) && isMachine(o) ? of(known.get(m), o) : -1;
        }

        int keeps(int l, int o) {
            return isLock(l) && isMachine(o) ? of(lockKeeps.get(l), o) : -1;
        }

        int count(int m, int what) {
            return isMachine(m) && what >= 0 && what <= 4 ? counts[m][what] : -1;
        }

        int races(int w) {
            return isWord(w) ? races[w] : -1;
        }

        int total(int what) {
            return what == 0 ? kept.size() : what == 1 ? rounds : what == 2 ? running() : -1;
        }
    }
}

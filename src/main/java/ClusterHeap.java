public final class ClusterHeap {
    public static final int REFUSED = -1, FULL = -2;
    public static final long NOTHING = -10000000000L;

    private static final int MACHINES = 4;
    private static final int LOCKS = 4;
    private static final int PAGES = 8;
    private static final int PAGE_WORDS = 8;
    private static final int WORDS = 64;
    private static final int MOST_KEPT = 300;

    private static final int RUNS = 0;
    private static final int WAITS = 1;
    private static final int AT_BARRIER = 2;
    private static final int RESTS = 3;

    private static final int NOBODY = -1;

    // Locks know accesses just as machines do, so both have a bit in knowers:
    // machine m is knower m, lock l is knower FIRST_LOCK + l.
    private static final int FIRST_LOCK = 4;
    private static final int ALL_MACHINES = 15;

    // Row l holds those that wait for lock l, row FIRST_REST + l those that rest at it.
    private static final int ROWS = 8;
    private static final int FIRST_REST = 4;
    private static final int ROW_PLACES = 32;

    private static final int FETCHES = 0;
    private static final int MOVED = 1;
    private static final int RACED = 2;
    private static final int MADE = 3;
    private static final int LOST = 4;
    private static final int TALLIES = 5;
    private static final int ALL_TALLIES = 20;

    private final int[] doing = new int[MACHINES];
    private final int[] awaited = new int[MACHINES];
    private final int[] tally = new int[ALL_TALLIES];

    private final int[] holderOf = new int[LOCKS];
    private final int[] row = new int[ROW_PLACES];
    private final int[] rowLength = new int[ROWS];

    private final boolean[] strictPage = new boolean[PAGES];
    private final int[] before = new int[WORDS];
    private final int[] racesOf = new int[WORDS];

    private final int[] makerOf = new int[MOST_KEPT];
    private final int[] wordOf = new int[MOST_KEPT];
    private final boolean[] isWrite = new boolean[MOST_KEPT];
    private final int[] written = new int[MOST_KEPT];
    private final int[] knowers = new int[MOST_KEPT];
    private final int[] seers = new int[MOST_KEPT];
    private int kept = 0;
    private int rounds = 0;

    public ClusterHeap() {
        for (int lock = 0; lock < LOCKS; lock++) {
            holderOf[lock] = NOBODY;
        }
    }

    public boolean mode(int page, boolean strict) {
        if (!isPage(page) || kept > 0) {
            return false;
        }
        strictPage[page] = strict;
        return true;
    }

    public long read(int machine, int word) {
        if (!mayAccess(machine, word) || kept >= MOST_KEPT) {
            return NOTHING;
        }
        bringPage(machine, word / PAGE_WORDS);
        int value = valueAt(machine, word);
        keepAccess(machine, word, false, 0);
        return value;
    }

    public int write(int machine, int word, int v) {
        if (!mayAccess(machine, word)) {
            return REFUSED;
        }
        if (kept >= MOST_KEPT) {
            return FULL;
        }
        bringPage(machine, word / PAGE_WORDS);
        takeFromOthers(machine, word / PAGE_WORDS);
        return keepAccess(machine, word, true, v) ? 1 : 0;
    }

    public long add(int machine, int word, int v) {
        if (!mayAccess(machine, word) || kept >= MOST_KEPT) {
            return NOTHING;
        }
        bringPage(machine, word / PAGE_WORDS);
        int value = valueAt(machine, word);
        takeFromOthers(machine, word / PAGE_WORDS);
        keepAccess(machine, word, true, value + v);
        return value;
    }

    public int acquire(int machine, int lock) {
        if (!isRunning(machine) || !isLock(lock) || holderOf[lock] == machine) {
            return REFUSED;
        }
        if (holderOf[lock] == NOBODY) {
            handOver(lock, machine);
            return 1;
        }
        waitFor(lock, machine);
        return 0;
    }

    public boolean release(int machine, int lock) {
        if (!isRunningHolder(machine, lock)) {
            return false;
        }
        giveBack(machine, lock);
        return true;
    }

    public boolean rest(int machine, int lock) {
        if (!isRunningHolder(machine, lock)) {
            return false;
        }
        giveBack(machine, lock);
        doing[machine] = RESTS;
        putLast(FIRST_REST + lock, machine);
        return true;
    }

    public int wake(int machine, int lock, boolean all) {
        if (!isRunningHolder(machine, lock)) {
            return REFUSED;
        }
        int resting = rowLength[FIRST_REST + lock];
        int woken = all || resting == 0 ? resting : 1;
        for (int i = 0; i < woken; i++) {
            int sleeper = takeFirst(FIRST_REST + lock);
            waitFor(lock, sleeper);
        }
        return woken;
    }

    public int arrive(int machine) {
        if (!isRunning(machine)) {
            return REFUSED;
        }
        doing[machine] = AT_BARRIER;
        if (machinesThat(AT_BARRIER) < MACHINES) {
            return 0;
        }
        openBarrier();
        return 1;
    }

    public int refresh(int machine) {
        if (!isRunning(machine)) {
            return REFUSED;
        }
        int fetched = 0;
        for (int page = 0; page < PAGES; page++) {
            if (isStale(machine, page)) {
                fetchLazy(machine, page);
                fetched++;
            }
        }
        return fetched;
    }

    public int tidy() {
        for (int i = 0; i < kept; i++) {
            if ((knowers[i] & ALL_MACHINES) != ALL_MACHINES) {
                return REFUSED;
            }
        }
        for (int i = 0; i < kept; i++) {
            if (isWrite[i]) {
                before[wordOf[i]] = written[i];
            }
        }
        int dropped = kept;
        kept = 0;
        return dropped;
    }

    public int state(int machine) {
        return isMachine(machine) ? doing[machine] : REFUSED;
    }

    public int holder(int lock) {
        if (!isLock(lock) || holderOf[lock] == NOBODY) {
            return REFUSED;
        }
        return holderOf[lock];
    }

    public int waits(int lock, boolean rests, int k) {
        if (!isLock(lock)) {
            return REFUSED;
        }
        int r = rests ? FIRST_REST + lock : lock;
        if (k == -1) {
            return rowLength[r];
        }
        if (k < 0 || k >= rowLength[r]) {
            return REFUSED;
        }
        return row[r * MACHINES + k];
    }

    public int ring(int machine) {
        if (!isMachine(machine)) {
            return REFUSED;
        }
        int at = machine;
        // A ring through the machine has at most all machines in it; a ring that it
        // only leads to never comes back to it.
        for (int step = 0; step < MACHINES; step++) {
            if (at == NOBODY || doing[at] != WAITS) {
                return 0;
            }
            at = holderOf[awaited[at]];
            if (at == machine) {
                return 1;
            }
        }
        return 0;
    }

    public int has(int machine, int page) {
        if (!isMachine(machine) || !isPage(page)) {
            return REFUSED;
        }
        if (!strictPage[page]) {
            return 3;
        }
        if (ownsPage(machine, page)) {
            return 2;
        }
        return hasPage(machine, page) ? 1 : 0;
    }

    public int stale(int machine, int page) {
        if (!isMachine(machine) || !isPage(page)) {
            return REFUSED;
        }
        return isStale(machine, page) ? 1 : 0;
    }

    public int knows(int machine, int other) {
        if (!isMachine(machine) || !isMachine(other)) {
            return REFUSED;
        }
        return knownOf(machine, other);
    }

    public int keeps(int lock, int other) {
        if (!isLock(lock) || !isMachine(other)) {
            return REFUSED;
        }
        return knownOf(FIRST_LOCK + lock, other);
    }

    public int count(int machine, int what) {
        if (!isMachine(machine) || what < 0 || what >= TALLIES) {
            return REFUSED;
        }
        return tally[machine * TALLIES + what];
    }

    public int races(int word) {
        return isWord(word) ? racesOf[word] : REFUSED;
    }

    public int total(int what) {
        switch (what) {
            case 0:
                return kept;
            case 1:
                return rounds;
            case 2:
                return machinesThat(RUNS);
            default:
                return REFUSED;
        }
    }

    private boolean isMachine(int machine) {
        return machine >= 0 && machine < MACHINES;
    }

    private boolean isLock(int lock) {
        return lock >= 0 && lock < LOCKS;
    }

    private boolean isPage(int page) {
        return page >= 0 && page < PAGES;
    }

    private boolean isWord(int word) {
        return word >= 0 && word < WORDS;
    }

    private boolean isRunning(int machine) {
        return isMachine(machine) && doing[machine] == RUNS;
    }

    private boolean isRunningHolder(int machine, int lock) {
        return isRunning(machine) && isLock(lock) && holderOf[lock] == machine;
    }

    private boolean mayAccess(int machine, int word) {
        return isRunning(machine) && isWord(word);
    }

    private boolean isKnown(int access, int knower) {
        return (knowers[access] >> knower & 1) != 0;
    }

    private boolean isSeen(int access, int machine) {
        return (seers[access] >> machine & 1) != 0;
    }

    private boolean isOnPage(int access, int page) {
        return wordOf[access] / PAGE_WORDS == page;
    }

    private boolean isKnownUnseenWrite(int access, int machine) {
        int news = knowers[access] & ~seers[access];
        return isWrite[access] && (news >> machine & 1) != 0;
    }

    private boolean isStale(int machine, int page) {
        if (strictPage[page]) {
            return false;
        }
        for (int i = 0; i < kept; i++) {
            if (isOnPage(i, page) && isKnownUnseenWrite(i, machine)) {
                return true;
            }
        }
        return false;
    }

    private boolean hasPage(int machine, int page) {
        boolean having = false;
        for (int i = 0; i < kept; i++) {
            if (!isOnPage(i, page)) {
                continue;
            }
            if (makerOf[i] == machine) {
                having = true;
            } else if (isWrite[i]) {
                having = false;
            }
        }
        return having;
    }

    private boolean ownsPage(int machine, int page) {
        boolean owning = false;
        for (int i = 0; i < kept; i++) {
            if (!isOnPage(i, page)) {
                continue;
            }
            if (makerOf[i] != machine) {
                owning = false;
            } else if (isWrite[i]) {
                owning = true;
            }
        }
        return owning;
    }

    private boolean isRacing(int machine, int word, boolean writing) {
        for (int i = 0; i < kept; i++) {
            // Its own accesses are always known, so no test for another maker is needed.
            if (wordOf[i] == word && (writing || isWrite[i]) && !isKnown(i, machine)) {
                return true;
            }
        }
        return false;
    }

    private void bringPage(int machine, int page) {
        if (strictPage[page]) {
            if (!hasPage(machine, page)) {
                countFetch(machine, PAGE_WORDS);
            }
        } else if (isStale(machine, page)) {
            fetchLazy(machine, page);
        }
    }

    private void fetchLazy(int machine, int page) {
        int first = page * PAGE_WORDS;
        int moved = 0;
        for (int word = first; word < first + PAGE_WORDS; word++) {
            if (seeWord(machine, word)) {
                moved++;
            }
        }
        countFetch(machine, moved);
    }

    private boolean seeWord(int machine, int word) {
        boolean anyNew = false;
        for (int i = 0; i < kept; i++) {
            if (wordOf[i] == word && isKnownUnseenWrite(i, machine)) {
                seers[i] |= 1 << machine;
                anyNew = true;
            }
        }
        return anyNew;
    }

    private void countFetch(int machine, int moved) {
        tally[machine * TALLIES + FETCHES]++;
        tally[machine * TALLIES + MOVED] += moved;
    }

    private void takeFromOthers(int machine, int page) {
        if (!strictPage[page]) {
            return;
        }
        // Nobody else has a page that the machine owns, so owners need no case of their own.
        for (int other = 0; other < MACHINES; other++) {
            if (other != machine && hasPage(other, page)) {
                tally[other * TALLIES + LOST]++;
            }
        }
    }

    private int valueAt(int machine, int word) {
        boolean strict = strictPage[word / PAGE_WORDS];
        int value = before[word];
        for (int i = 0; i < kept; i++) {
            if (isWrite[i] && wordOf[i] == word && (strict || isSeen(i, machine))) {
                value = written[i];
            }
        }
        return value;
    }

    // Answers whether the access races. Callers leave room for it.
    private boolean keepAccess(int machine, int word, boolean writing, int value) {
        boolean racing = isRacing(machine, word, writing);
        if (racing) {
            tally[machine * TALLIES + RACED]++;
            racesOf[word]++;
        }
        tally[machine * TALLIES + MADE]++;
        makerOf[kept] = machine;
        wordOf[kept] = word;
        isWrite[kept] = writing;
        written[kept] = value;
        knowers[kept] = 1 << machine;
        seers[kept] = 1 << machine;
        kept++;
        return racing;
    }

    private void learn(int knower, int from) {
        for (int i = 0; i < kept; i++) {
            if (isKnown(i, from)) {
                knowers[i] |= 1 << knower;
            }
        }
    }

    private int knownOf(int knower, int other) {
        int known = 0;
        for (int i = 0; i < kept; i++) {
            if (makerOf[i] == other && isKnown(i, knower)) {
                known++;
            }
        }
        return known;
    }

    private void handOver(int lock, int machine) {
        holderOf[lock] = machine;
        doing[machine] = RUNS;
        learn(machine, FIRST_LOCK + lock);
    }

    private void giveBack(int machine, int lock) {
        // The holder learned all that the lock keeps when it got it, so adding to
        // what the lock keeps is the same as setting it anew.
        learn(FIRST_LOCK + lock, machine);
        holderOf[lock] = NOBODY;
        if (rowLength[lock] > 0) {
            int next = takeFirst(lock);
            handOver(lock, next);
        }
    }

    private void waitFor(int lock, int machine) {
        doing[machine] = WAITS;
        awaited[machine] = lock;
        putLast(lock, machine);
    }

    // A machine stands in one row at most, so a row never needs more than MACHINES places.
    private void putLast(int r, int machine) {
        if (rowLength[r] < MACHINES) {
            row[r * MACHINES + rowLength[r]] = machine;
            rowLength[r]++;
        }
    }

    // Callers look whether the row has a first.
    private int takeFirst(int r) {
        int first = row[r * MACHINES];
        for (int k = 1; k < MACHINES; k++) {
            row[r * MACHINES + k - 1] = row[r * MACHINES + k];
        }
        rowLength[r]--;
        return first;
    }

    private int machinesThat(int does) {
        int machines = 0;
        for (int machine = 0; machine < MACHINES; machine++) {
            if (doing[machine] == does) {
                machines++;
            }
        }
        return machines;
    }

    private void openBarrier() {
        for (int machine = 0; machine < MACHINES; machine++) {
            doing[machine] = RUNS;
        }
        // The maker of each access is at the barrier and knows it.
        for (int i = 0; i < kept; i++) {
            knowers[i] |= ALL_MACHINES;
        }
        rounds++;
    }
}

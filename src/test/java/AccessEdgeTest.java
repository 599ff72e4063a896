/** The edges of promises 1 to 5 (new object, mode, read, write, add) and 24 (order and limits), a test each. */
public final class AccessEdgeTest {
    private static final String ALL_ARRIVE = Scene.ALL_ARRIVE;
    private static final Scene BUSY = Scene.BUSY;
    private static final Scene FULL = Scene.FULL;

    public static void main(String[] args) {
        newObjectHasNothingOfAnother();
        modeOfNoPage();
        modeOfFirstAndLastPage();
        modeWhileAccessesAreKept();
        modeWithoutKeptAccesses();
        modeLeavesWords();
        readOfNoMachine();
        readOfNoWord();
        readOfAMachineThatDoesNotRun();
        readBehind300();
        readOfExtremes();
        writeOfNoMachine();
        writeOfNoWord();
        writeOfAMachineThatDoesNotRun();
        writeBehind300();
        writeIsRefusedBeforeFull();
        writeOfExtremes();
        addOfNoMachine();
        addOfNoWord();
        addOfAMachineThatDoesNotRun();
        addBehind300();
        addWraps();
        addOfZeroIsAWrite();
        addIsOneAccess();
        ownsByKeptAccessesOnly();
        racesWithKeptAccessesOnly();
        countsGoOnOverATidy();
        roomAgainBehindATidy();
        goodUntilThe512thCall();
        Due.end();
    }

    private static void newObjectHasNothingOfAnother() {
        Due.part("1 new object: all words 0, no accesses, all run, all locks free and keep nothing");
        Run.of(BUSY.before);
        Run fresh = Run.of("total(0) = 0; total(1) = 0; total(2) = 4");
        for (int n = 0; n < 4; n++) {
            fresh.play("state(" + n + ") = 0; holder(" + n + ") = REFUSED; ring(" + n + ") = 0");
            fresh.play("waits(" + n + ", false, -1) = 0; waits(" + n + ", true, -1) = 0");
            for (int other = 0; other < 4; other++) {
                fresh.play("knows(" + n + ", " + other + ") = 0; keeps(" + n + ", " + other + ") = 0");
            }
            for (int what = 0; what < 5; what++) {
                fresh.play("count(" + n + ", " + what + ") = 0");
            }
        }
        for (int page = 0; page < 8; page++) {
            fresh.play("has(1, " + page + ") = 3; stale(2, " + page + ") = 0");
        }
        for (int word = 0; word < 64; word++) {
            fresh.play("races(" + word + ") = 0; read(" + word % 4 + ", " + word + ") = 0");
        }
    }

    private static void modeOfNoPage() {
        Due.part("2 mode: false, and nothing changes, if there is no such page");
        for (int page : Edge.outside(8)) {
            Edge.still("mode(" + page + ", true)", Edge.NO, Scene.NEW, BUSY, FULL);
            Edge.still("mode(" + page + ", false)", Edge.NO, Scene.NEW, BUSY, FULL);
        }
    }

    private static void modeOfFirstAndLastPage() {
        Due.part("2 mode: true for pages 0 and 7");
        Run.of("mode(0, true) = true; mode(7, true) = true; has(0, 0) = 0; has(0, 7) = 0; has(0, 1) = 3; has(0, 6) = 3",
            "mode(0, true) = true; has(0, 0) = 0; mode(0, false) = true; mode(0, false) = true; has(0, 0) = 3; has(0, 7) = 0");
    }

    private static void modeWhileAccessesAreKept() {
        Due.part("2 mode: false, and nothing changes, if accesses are kept");
        Scene oneRead = new Scene("read(0, 0); ", ALL_ARRIVE);
        for (int page = 0; page < 8; page++) {
            Edge.still("mode(" + page + ", true)", Edge.NO, oneRead, BUSY, FULL);
            Edge.still("mode(" + page + ", false)", Edge.NO, oneRead, BUSY, FULL);
        }
    }

    private static void modeWithoutKeptAccesses() {
        Due.part("2 mode: true if no accesses are kept");
        Run.of("read(0, 64); mode(0, true) = true; write(0, 0, 1); " + ALL_ARRIVE + "mode(0, false) = false",
            "tidy() = 1; mode(0, false) = true; has(0, 0) = 3");
        Due.part("2 mode: no machine needs to run");
        Run.of("acquire(0, 0); acquire(1, 0); arrive(0); arrive(2); arrive(3); total(2) = 0; mode(5, true) = true; has(0, 5) = 0");
    }

    private static void modeLeavesWords() {
        Due.part("2 mode: its words stay");
        Run.of("write(0, 8, MIN); write(0, 15, MAX); " + ALL_ARRIVE + "tidy() = 2; mode(1, true) = true",
            "read(1, 8) = MIN; read(1, 15) = MAX; write(2, 9, -1); " + ALL_ARRIVE + "tidy() = 3; mode(1, false) = true",
            "read(3, 8) = MIN; read(3, 9) = -1; read(3, 15) = MAX; read(3, 10) = 0");
    }

    private static void readOfNoMachine() {
        Due.part("3 read: NOTHING, and nothing changes, if there is no such machine");
        for (int machine : Edge.outside(4)) {
            Edge.still("read(" + machine + ", 0)", Edge.NOTHING, Scene.NEW, BUSY, FULL);
            Edge.still("read(" + machine + ", " + machine + ")", Edge.NOTHING, BUSY);
        }
        Run.of("read(0, 0) = 0; read(3, 0) = 0; count(0, 3) = 1; count(3, 3) = 1");
    }

    private static void readOfNoWord() {
        Due.part("3 read: NOTHING, and nothing changes, if there is no such word");
        for (int word : Edge.outside(64)) {
            Edge.still("read(0, " + word + ")", Edge.NOTHING, Scene.NEW, BUSY, FULL);
        }
        Run.of("read(0, 0) = 0; read(0, 63) = 0; total(0) = 2");
    }

    private static void readOfAMachineThatDoesNotRun() {
        Due.part("3 read: NOTHING, and nothing changes, if the machine does not run");
        for (int machine = 1; machine < 4; machine++) {
            Edge.still("read(" + machine + ", 0)", Edge.NOTHING, BUSY, FULL);
            Edge.still("read(" + machine + ", 63)", Edge.NOTHING, BUSY, FULL);
        }
    }

    private static void readBehind300() {
        Due.part("3 read: NOTHING, and nothing changes, if 300 accesses are kept");
        Edge.still("read(0, 0)", Edge.NOTHING, FULL);
        Edge.still("read(0, 8)", Edge.NOTHING, FULL);
        Edge.still("read(0, 40)", Edge.NOTHING, FULL);
        Due.part("3 read: the 300th");
        Run.of("write(0, 0, 4); ".repeat(299), "total(0) = 299; read(0, 0) = 4; total(0) = 300; read(0, 0) = NOTHING; count(0, 3) = 300");
    }

    private static void readOfExtremes() {
        Due.part("3 read: values that look like other answers");
        for (String v : new String[] {"MIN", "MAX", "-1", "-2", "0"}) {
            Run.of("write(0, 5, 3); write(0, 5, " + v + ") = 0; read(0, 5) = " + v + "; " + ALL_ARRIVE + "read(1, 5) = " + v);
            Run.of("mode(0, true); write(0, 5, 3); write(0, 5, " + v + ") = 0; read(1, 5) = " + v);
        }
    }

    private static void writeOfNoMachine() {
        Due.part("4 write: REFUSED, and nothing changes, if there is no such machine");
        for (int machine : Edge.outside(4)) {
            Edge.still("write(" + machine + ", 0, 1)", Edge.REFUSED, Scene.NEW, BUSY);
        }
        Run.of("write(0, 0, 1) = 0; write(3, 1, 1) = 0; count(0, 3) = 1; count(3, 3) = 1");
    }

    private static void writeOfNoWord() {
        Due.part("4 write: REFUSED, and nothing changes, if there is no such word");
        for (int word : Edge.outside(64)) {
            Edge.still("write(0, " + word + ", 1)", Edge.REFUSED, Scene.NEW, BUSY);
        }
        Run.of("write(0, 0, 1) = 0; write(0, 63, 2) = 0; read(0, 0) = 1; read(0, 63) = 2");
    }

    private static void writeOfAMachineThatDoesNotRun() {
        Due.part("4 write: REFUSED, and nothing changes, if the machine does not run");
        for (int machine = 1; machine < 4; machine++) {
            Edge.still("write(" + machine + ", 0, 1)", Edge.REFUSED, BUSY);
            Edge.still("write(" + machine + ", 8, 1)", Edge.REFUSED, BUSY);
        }
    }

    private static void writeBehind300() {
        Due.part("4, 24 write: FULL if 300 accesses are kept, and nothing changes");
        Edge.still("write(0, 0, 1)", Edge.FULL, FULL);
        Edge.still("write(0, 8, 1)", Edge.FULL, FULL);
        Edge.still("write(0, 63, 1)", Edge.FULL, FULL);
        Due.part("4 write: the 300th");
        Run.of("read(0, 0); ".repeat(299), "write(0, 0, 4) = 0; total(0) = 300; write(0, 0, 5) = FULL; count(0, 3) = 300");
        Run.of("read(0, 0); ".repeat(299), "write(1, 0, 4) = 1; write(2, 0, 4) = FULL; count(2, 2) = 0; races(0) = 1");
    }

    private static void writeIsRefusedBeforeFull() {
        Due.part("24 write: REFUSED is tested before FULL");
        for (int machine : Edge.outside(4)) {
            Edge.still("write(" + machine + ", 0, 1)", Edge.REFUSED, FULL);
        }
        for (int word : Edge.outside(64)) {
            Edge.still("write(0, " + word + ", 1)", Edge.REFUSED, FULL);
        }
        for (int machine = 1; machine < 4; machine++) {
            Edge.still("write(" + machine + ", 0, 1)", Edge.REFUSED, FULL);
        }
    }

    private static void writeOfExtremes() {
        Due.part("4 write: the greatest and the smallest int");
        Run.of("write(0, 0, MAX) = 0; write(1, 0, MIN) = 1; read(0, 0) = MAX; read(1, 0) = MIN; " + ALL_ARRIVE + "read(0, 0) = MIN",
            "tidy() = REFUSED; " + ALL_ARRIVE + "tidy() = 5; read(2, 0) = MIN");
    }

    private static void addOfNoMachine() {
        Due.part("5 add: NOTHING, and nothing changes, if there is no such machine");
        for (int machine : Edge.outside(4)) {
            Edge.still("add(" + machine + ", 0, 1)", Edge.NOTHING, Scene.NEW, BUSY, FULL);
        }
        Run.of("add(0, 0, 1) = 0; add(3, 1, 1) = 0; count(0, 3) = 1; count(3, 3) = 1");
    }

    private static void addOfNoWord() {
        Due.part("5 add: NOTHING, and nothing changes, if there is no such word");
        for (int word : Edge.outside(64)) {
            Edge.still("add(0, " + word + ", 1)", Edge.NOTHING, Scene.NEW, BUSY, FULL);
        }
        Run.of("add(0, 0, 1) = 0; add(0, 63, 2) = 0; read(0, 0) = 1; read(0, 63) = 2");
    }

    private static void addOfAMachineThatDoesNotRun() {
        Due.part("5 add: NOTHING, and nothing changes, if the machine does not run");
        for (int machine = 1; machine < 4; machine++) {
            Edge.still("add(" + machine + ", 0, 1)", Edge.NOTHING, BUSY, FULL);
            Edge.still("add(" + machine + ", 8, 1)", Edge.NOTHING, BUSY, FULL);
        }
    }

    private static void addBehind300() {
        Due.part("5 add: NOTHING, and nothing changes, if 300 accesses are kept");
        Edge.still("add(0, 0, 1)", Edge.NOTHING, FULL);
        Edge.still("add(0, 8, 1)", Edge.NOTHING, FULL);
        Edge.still("add(0, 63, 0)", Edge.NOTHING, FULL);
        Due.part("5 add: the 300th is one access");
        Run.of("add(0, 0, 1); ".repeat(299), "add(0, 0, 1) = 299; total(0) = 300; add(0, 0, 1) = NOTHING; count(0, 3) = 300",
            ALL_ARRIVE, "tidy() = 300; read(1, 0) = 300");
    }

    private static void addWraps() {
        Due.part("5 add: wrapping");
        Run.of("write(0, 0, MAX); add(0, 0, 1) = MAX; read(0, 0) = MIN; add(0, 0, -1) = MIN; read(0, 0) = MAX",
            "add(0, 0, MAX) = MAX; read(0, 0) = -2; add(0, 0, MIN) = -2; read(0, 0) = 2147483646");
        Run.of("mode(0, true); write(0, 0, MIN); add(1, 0, MIN) = MIN; read(0, 0) = 0; add(0, 0, MIN) = 0; read(1, 0) = MIN");
    }

    private static void addOfZeroIsAWrite() {
        Due.part("5 add: of 0 is a write too");
        Run.of("read(0, 0); add(1, 0, 0) = 0; races(0) = 1; read(2, 0); races(0) = 2; " + ALL_ARRIVE + "stale(0, 0) = 1");
    }

    private static void addIsOneAccess() {
        Due.part("5 add: one access that is both");
        Run.of("write(0, 0, 1); add(1, 0, 1) = 0; total(0) = 2; count(1, 3) = 1; count(1, 2) = 1; races(0) = 1; knows(1, 1) = 1",
            ALL_ARRIVE, "add(0, 0, 10) = 1; count(0, 0) = 1; count(0, 1) = 1; count(0, 3) = 2; read(0, 0) = 11");
    }

    private static void ownsByKeptAccessesOnly() {
        Due.part("24: owns and has are of the accesses that are kept");
        Run.of("mode(0, true); write(0, 0, 1); read(1, 0); write(1, 1, 2); " + ALL_ARRIVE + "has(1, 0) = 2; tidy() = 3",
            "has(0, 0) = 0; has(1, 0) = 0; write(2, 0, 1) = 0; has(2, 0) = 2; count(0, 4) = 1; count(1, 4) = 0",
            "count(2, 1) = 8; read(1, 0) = 1; count(1, 0) = 2; count(1, 1) = 16");
    }

    private static void racesWithKeptAccessesOnly() {
        Due.part("24: after tidy no access races with one of before");
        Run.of("write(0, 0, 1); write(1, 0, 2) = 1; " + ALL_ARRIVE + "tidy() = 2; write(2, 0, 3) = 0; races(0) = 1; write(3, 0, 4) = 1; races(0) = 2");
        Run.of("write(0, 0, 1); " + ALL_ARRIVE + "write(0, 0, 2); read(1, 0) = 1; races(0) = 1; " + ALL_ARRIVE + "tidy() = 3",
            "read(1, 0) = 2; read(2, 0) = 2; races(0) = 1");
    }

    private static void countsGoOnOverATidy() {
        Due.part("24: count and races go on counting over a tidy");
        String round = "write(0, 0, 1); write(1, 0, 2); read(2, 8); write(3, 9, 1); read(0, 7); " + ALL_ARRIVE
            + "read(0, 7); " + ALL_ARRIVE + "tidy() = 6; ";
        Run.of("mode(1, true); " + round + round,
            "count(0, 0) = 2; count(0, 1) = 2; count(0, 2) = 0; count(0, 3) = 6; count(0, 4) = 0; count(1, 2) = 2",
            "count(2, 0) = 2; count(2, 1) = 16; count(2, 4) = 2; count(3, 0) = 2; races(0) = 2; total(1) = 4; total(0) = 0");
    }

    private static void roomAgainBehindATidy() {
        Due.part("24: behind a tidy there is room for 300 again");
        Run.of("write(0, 0, 1); ".repeat(300), ALL_ARRIVE, "write(1, 0, 1) = FULL; tidy() = 300; write(1, 0, 2) = 0; total(0) = 1",
            "read(1, 0); ".repeat(198), "total(0) = 199; count(1, 3) = 199; read(2, 0) = 1");
    }

    private static void goodUntilThe512thCall() {
        Due.part("an object is used for 512 calls");
        Run.of("write(0, 63, 1); ".repeat(300), ALL_ARRIVE, "tidy() = 300", "add(3, 63, 1); ".repeat(206), "count(3, 3) = 206");
    }
}

/** The edges that the document's terms name, a test each. */
public final class TermEdgeTest {
    private static final String ALL_ARRIVE = Scene.ALL_ARRIVE;

    public static void main(String[] args) {
        scenesAreAsSaid();
        pageHasWordsFromEightTimesItsNumber();
        onlyWhatIsNotRefusedIsAnAccess();
        knowsItsOwnAlways();
        hasSeenItsOwnAlways();
        hasSeenNoneOfOthersAtFirst();
        lazyAtFirst();
        notStaleByAWriteItDoesNotKnow();
        notStaleByARead();
        notStaleByAWriteToAnotherPage();
        notStaleIfStrict();
        eachAccessToAStalePageFetches();
        accessToAPageThatIsNotStaleFetchesNothing();
        fetchSeesAllKnownWritesOfThePage();
        fetchSeesNoUnknownWrite();
        fetchLeavesOtherPages();
        movedAreDifferentWords();
        movedIsAWordThatItWroteLaterItself();
        readGivesTheGreatestNumber();
        readGivesWhatWasBeforeIfThereIsNoSeenWrite();
        strictPageThatNobodyHas();
        hasByAnAccessAtAllIfNobodyElseWrote();
        hasOnlyBehindTheLatestWriteOfAnother();
        ownsOnlyByAWrite();
        ownsUntilAnotherMachinesAccess();
        strictAccessFetchesEightWordsIfItDoesNotHaveThePage();
        eachOtherThatHasThePageLosesIt();
        nobodyLosesWhatTheWriterOwns();
        nobodyLosesByARead();
        strictReadGivesWhatTheMachineDoesNotKnow();
        strictReadGivesWhatWasBeforeIfThereIsNoWrite();
        racesNotWithItself();
        racesNotIfBothRead();
        racesNotOnAnotherWord();
        racesNotIfTheEarlierIsKnown();
        racesOnceWithManyEarlierOnes();
        racesOnlyTheLaterOne();
        lockKeepsWhatIsKnownThen();
        lockGoesToTheFirstOfItsRowOnly();
        lockWithAnEmptyRowIsFree();
        whoGetsALockKnowsAlsoWhatItKeeps();
        barrierNeedsAllFour();
        barrierTellsAllThatAnyKnew();
        Due.end();
    }

    /** The other edge tests rest on what these states are. */
    private static void scenesAreAsSaid() {
        Due.part("scene BUSY");
        Run.of(Scene.BUSY.before,
            "state(0) = 0; state(1) = 1; state(2) = 3; state(3) = 2; total(0) = 9; total(2) = 1",
            "holder(0) = 0; holder(1) = 1; holder(2) = 2; holder(3) = 3",
            "waits(0, false, -1) = 1; waits(0, false, 0) = 1; waits(0, true, -1) = 1; waits(0, true, 0) = 2",
            "has(0, 1) = 1; has(1, 1) = 0; has(2, 1) = 1; has(3, 1) = 1; has(3, 7) = 2; has(0, 0) = 3",
            "stale(0, 0) = 1; stale(0, 1) = 0; stale(0, 2) = 1; races(0) = 1; races(8) = 1; keeps(0, 1) = 2");
        Due.part("scene FULL");
        Run.of(Scene.FULL.before, "total(0) = 300; state(0) = 0; stale(0, 0) = 1; stale(0, 2) = 1; count(0, 3) = 293");
        Due.part("scene FREE");
        Run.of(Scene.FREE.before, "holder(1) = REFUSED; waits(1, true, 0) = 2; state(0) = 0; state(1) = 0; state(3) = 2");
    }

    private static void pageHasWordsFromEightTimesItsNumber() {
        Due.part("terms: page p has the words 8 p .. 8 p + 7");
        for (int page = 0; page < 8; page++) {
            for (int word = 8 * page; word <= 8 * page + 7; word += 7) {
                Run lazy = Run.of("write(0, " + word + ", 1); " + ALL_ARRIVE);
                Run strict = Run.of();
                for (int p = 0; p < 8; p++) {
                    lazy.play("stale(1, " + p + ") = " + (p == page ? 1 : 0));
                    strict.play("mode(" + p + ", true) = true");
                }
                strict.play("read(2, " + word + ") = 0");
                for (int p = 0; p < 8; p++) {
                    strict.play("has(2, " + p + ") = " + (p == page ? 1 : 0));
                }
            }
        }
    }

    private static void onlyWhatIsNotRefusedIsAnAccess() {
        Due.part("terms: a refused read or write is no access");
        Run.of("read(0, 64) = NOTHING; write(0, 64, 1) = REFUSED; add(0, -1, 1) = NOTHING",
            "knows(0, 0) = 0; count(0, 3) = 0; total(0) = 0; mode(0, true) = true");
    }

    private static void knowsItsOwnAlways() {
        Due.part("terms: a machine knows its own accesses always");
        for (int m = 0; m < 4; m++) {
            String own = "knows(" + m + ", " + m + ") = ";
            Run.of(own + "0; read(" + m + ", 63) = 0; " + own + "1; write(" + m + ", 0, 1) = 0; " + own + "2; "
                + "add(" + m + ", 0, 1) = 1; " + own + "3; " + ALL_ARRIVE + own + "3");
        }
    }

    private static void hasSeenItsOwnAlways() {
        Due.part("terms: a machine has seen its own writes always");
        Run.of("write(3, 5, 7); read(3, 5) = 7; add(3, 5, 1) = 7; read(3, 5) = 8; stale(3, 0) = 0",
            ALL_ARRIVE, "stale(3, 0) = 0; refresh(3) = 0; read(3, 5) = 8; count(3, 0) = 0; count(3, 1) = 0");
    }

    private static void hasSeenNoneOfOthersAtFirst() {
        Due.part("terms: of the writes of others none is seen at first");
        Run.of("write(0, 5, 7); read(1, 5) = 0; read(2, 5) = 0; read(3, 5) = 0; read(0, 5) = 7",
            ALL_ARRIVE, "stale(1, 0) = 1; stale(2, 0) = 1; stale(3, 0) = 1");
    }

    private static void lazyAtFirst() {
        Due.part("terms: a page is lazy at first");
        for (int page = 0; page < 8; page++) {
            Run.of("has(0, " + page + ") = 3; has(3, " + page + ") = 3; write(0, " + 8 * page + ", 1); "
                + "read(1, " + 8 * page + ") = 0; has(1, " + page + ") = 3");
        }
    }

    private static void notStaleByAWriteItDoesNotKnow() {
        Due.part("terms: stale only by a write that the machine knows");
        Run.of("write(0, 0, 1); stale(1, 0) = 0; acquire(0, 0); release(0, 0); stale(1, 0) = 0",
            "acquire(2, 0); stale(1, 0) = 0; stale(2, 0) = 1; refresh(1) = 0");
    }

    private static void notStaleByARead() {
        Due.part("terms: stale only by a write, not by a read");
        Run.of("read(0, 0); " + ALL_ARRIVE + "knows(1, 0) = 1; stale(1, 0) = 0; read(1, 0) = 0; count(1, 0) = 0");
    }

    private static void notStaleByAWriteToAnotherPage() {
        Due.part("terms: stale only by a write to a word of the page");
        Run.of("write(0, 7, 1); write(0, 16, 1); " + ALL_ARRIVE + "stale(1, 0) = 1; stale(1, 1) = 0; stale(1, 2) = 1",
            "read(1, 8) = 0; read(1, 15) = 0; count(1, 0) = 0");
    }

    private static void notStaleIfStrict() {
        Due.part("terms: a lazy page is stale, a strict one is not");
        Run.of("mode(0, true); write(0, 0, 1); " + ALL_ARRIVE + "stale(1, 0) = 0; refresh(1) = 0; count(1, 0) = 0");
    }

    private static void eachAccessToAStalePageFetches() {
        Due.part("terms: an access to a word of a stale page first fetches it");
        String[] accesses = {"read(1, 7) = 0", "write(1, 7, 2) = 0", "add(1, 7, 2) = 0", "read(1, 0) = 9", "add(1, 0, 1) = 9"};
        for (String access : accesses) {
            Run.of("write(0, 0, 9); " + ALL_ARRIVE, access,
                "count(1, 0) = 1; count(1, 1) = 1; stale(1, 0) = 0; stale(2, 0) = 1; count(2, 0) = 0");
        }
    }

    private static void accessToAPageThatIsNotStaleFetchesNothing() {
        Due.part("terms: an access to a page that is not stale does not fetch");
        Run.of("read(1, 0); write(1, 0, 1); add(1, 0, 1); count(1, 0) = 0; count(1, 1) = 0",
            "write(0, 1, 1); " + ALL_ARRIVE + "read(1, 1) = 1; count(1, 0) = 1; read(1, 1) = 1; write(1, 1, 2); add(1, 0, 1)",
            "count(1, 0) = 1; count(1, 1) = 1");
    }

    private static void fetchSeesAllKnownWritesOfThePage() {
        Due.part("terms: all writes to the page that the machine knows are seen");
        Run run = Run.of();
        for (int word = 8; word < 16; word++) {
            run.play("write(" + word % 3 + ", " + word + ", " + 10 * word + ")");
        }
        run.play(ALL_ARRIVE + "read(3, 12) = 120; count(3, 0) = 1; count(3, 1) = 8; stale(3, 1) = 0");
        for (int word = 8; word < 16; word++) {
            run.play("read(3, " + word + ") = " + 10 * word);
        }
        run.play("count(3, 0) = 1; count(3, 1) = 8");
    }

    private static void fetchSeesNoUnknownWrite() {
        Due.part("terms: a fetch sees only writes that the machine knows");
        Run.of("write(0, 0, 1); acquire(0, 0); release(0, 0); write(0, 1, 2); write(0, 0, 3); acquire(1, 0)",
            "read(1, 0) = 1; read(1, 1) = 0; count(1, 0) = 1; count(1, 1) = 1; stale(1, 0) = 0");
    }

    private static void fetchLeavesOtherPages() {
        Due.part("terms: a fetch is of one page");
        Run.of("write(0, 0, 1); write(0, 8, 1); " + ALL_ARRIVE + "read(1, 0) = 1; count(1, 0) = 1; count(1, 1) = 1",
            "stale(1, 0) = 0; stale(1, 1) = 1; read(1, 8) = 1; count(1, 0) = 2; count(1, 1) = 2");
    }

    private static void movedAreDifferentWords() {
        Due.part("terms: the number of different words is moved");
        Run.of("write(0, 0, 1); write(0, 0, 2); write(2, 0, 3); add(2, 0, 4); write(0, 7, 1); read(0, 5)",
            ALL_ARRIVE, "read(1, 3) = 0; count(1, 1) = 2; count(1, 0) = 1",
            "write(0, 0, 5); " + ALL_ARRIVE + "read(1, 0) = 5; count(1, 1) = 3; count(1, 0) = 2");
    }

    private static void movedIsAWordThatItWroteLaterItself() {
        Due.part("terms: a word counts as moved though a later write of its own stands there");
        Run.of("write(0, 0, 1); acquire(0, 0); release(0, 0); write(1, 0, 2) = 1; acquire(1, 0); stale(1, 0) = 1",
            "read(1, 0) = 2; count(1, 0) = 1; count(1, 1) = 1; stale(1, 0) = 0");
    }

    private static void readGivesTheGreatestNumber() {
        Due.part("terms: a read gives the write with the greatest number of those seen");
        Run.of("write(3, 0, 30); write(0, 0, 1); " + ALL_ARRIVE + "read(3, 0) = 1; read(0, 0) = 1; read(1, 0) = 1",
            "write(2, 0, 5); read(3, 0) = 1; write(3, 0, 6); " + ALL_ARRIVE + "read(2, 0) = 6; read(3, 0) = 6; read(0, 0) = 6");
    }

    private static void readGivesWhatWasBeforeIfThereIsNoSeenWrite() {
        Due.part("terms: a read gives what was there before if there is no seen write");
        Run.of("read(0, 1) = 0; write(0, 1, 7); " + ALL_ARRIVE + "tidy() = 2; read(2, 1) = 7",
            "write(0, 1, 8); read(2, 1) = 7; read(2, 0) = 0; read(0, 1) = 8");
    }

    private static void strictPageThatNobodyHas() {
        Due.part("terms: a page that nobody has");
        Run.of("mode(3, true); has(0, 3) = 0; has(1, 3) = 0; has(2, 3) = 0; has(3, 3) = 0",
            "write(0, 23, 1); write(0, 32, 1); has(0, 3) = 0; write(1, 24, 1) = 0; has(1, 3) = 2; count(0, 4) = 0");
    }

    private static void hasByAnAccessAtAllIfNobodyElseWrote() {
        Due.part("terms: has the page by an access at all, if no other machine wrote");
        Run.of("mode(0, true); read(1, 0); has(1, 0) = 1; read(2, 7); has(1, 0) = 1; has(2, 0) = 1",
            "mode(1, true) = false; has(0, 0) = 0; has(3, 0) = 0");
        Run.of("mode(0, true); write(1, 0, 1); read(1, 0); has(1, 0) = 2; read(2, 0); has(1, 0) = 1; has(2, 0) = 1");
    }

    private static void hasOnlyBehindTheLatestWriteOfAnother() {
        Due.part("terms: has the page only by an access behind the latest write of another machine");
        Run.of("mode(0, true); read(1, 0); write(2, 1, 1); has(1, 0) = 0; read(1, 0); has(1, 0) = 1",
            "add(3, 7, 1); has(1, 0) = 0; has(2, 0) = 0; has(3, 0) = 2; read(2, 0); has(2, 0) = 1; has(1, 0) = 0",
            "write(3, 8, 1); has(2, 0) = 1");
    }

    private static void ownsOnlyByAWrite() {
        Due.part("terms: owns the page only if it has made a write to it");
        Run.of("mode(0, true); read(1, 0); read(1, 1); has(1, 0) = 1; write(1, 8, 1); has(1, 0) = 1; write(1, 7, 0); has(1, 0) = 2");
        Run.of("mode(0, true); add(1, 0, 0); has(1, 0) = 2");
    }

    private static void ownsUntilAnotherMachinesAccess() {
        Due.part("terms: owns the page if no other machine made an access to it since");
        Run.of("mode(0, true); read(2, 0); write(1, 0, 1); has(1, 0) = 2; read(1, 3); has(1, 0) = 2; write(2, 8, 1); has(1, 0) = 2",
            "read(2, 9); has(1, 0) = 2; read(2, 7); has(1, 0) = 1; read(1, 0); has(1, 0) = 1; write(1, 0, 2); has(1, 0) = 2",
            "write(2, 0, 1); has(1, 0) = 0; has(2, 0) = 2");
    }

    private static void strictAccessFetchesEightWordsIfItDoesNotHaveThePage() {
        Due.part("terms: an access by a machine that does not have the page moves 8 words");
        String[] accesses = {"read(1, 0)", "write(1, 0, 1)", "add(1, 0, 1)"};
        for (String access : accesses) {
            Run.of("mode(0, true)", access, "count(1, 0) = 1; count(1, 1) = 8; count(0, 0) = 0", access,
                "read(1, 7); write(1, 6, 1); add(1, 5, 1); count(1, 0) = 1; count(1, 1) = 8",
                "write(2, 0, 1); count(2, 1) = 8; count(1, 1) = 8", access, "count(1, 0) = 2; count(1, 1) = 16");
        }
    }

    private static void eachOtherThatHasThePageLosesIt() {
        Due.part("terms: at a write each other machine that has the page loses it");
        String[] writes = {"write(3, 0, 1)", "add(3, 0, 1)"};
        for (String write : writes) {
            Run.of("mode(0, true); read(0, 0); read(1, 1); read(2, 2)", write,
                "count(0, 4) = 1; count(1, 4) = 1; count(2, 4) = 1; count(3, 4) = 0; has(0, 0) = 0",
                "read(3, 0)", write, "count(0, 4) = 1; read(1, 0)", write,
                "count(0, 4) = 1; count(1, 4) = 2; count(2, 4) = 1; count(3, 4) = 0");
        }
    }

    private static void nobodyLosesWhatTheWriterOwns() {
        Due.part("terms: at a write of the owner nobody loses the page");
        Run.of("mode(0, true); write(0, 0, 1); write(0, 0, 2); add(0, 1, 1); count(0, 4) = 0; count(1, 4) = 0",
            "write(1, 0, 1); count(0, 4) = 1; write(1, 0, 2); count(0, 4) = 1; count(1, 4) = 0");
    }

    private static void nobodyLosesByARead() {
        Due.part("terms: a machine loses a page at a write, not at a read");
        Run.of("mode(0, true); write(0, 0, 1); read(1, 0); read(2, 0); count(0, 4) = 0; count(1, 4) = 0; has(0, 0) = 1");
        Run.of("read(0, 0); write(1, 0, 1); count(0, 4) = 0; write(0, 0, 1); count(1, 4) = 0");
    }

    private static void strictReadGivesWhatTheMachineDoesNotKnow() {
        Due.part("terms: a strict read gives the latest write of all");
        Run.of("mode(0, true); write(0, 0, 5); write(1, 0, 6); read(2, 0) = 6; read(0, 0) = 6; knows(2, 1) = 0; knows(2, 0) = 0",
            "add(3, 0, 1) = 6; read(1, 0) = 7; read(1, 1) = 0");
    }

    private static void strictReadGivesWhatWasBeforeIfThereIsNoWrite() {
        Due.part("terms: a strict read gives what was there before if there is no write");
        Run.of("mode(0, true); read(0, 0) = 0; write(0, 0, 9); " + ALL_ARRIVE + "tidy() = 2; read(3, 0) = 9; write(1, 1, 2); read(2, 0) = 9");
    }

    private static void racesNotWithItself() {
        Due.part("terms: an access races with one of another machine");
        Run.of("write(0, 0, 1) = 0; write(0, 0, 1) = 0; read(0, 0); add(0, 0, 1); races(0) = 0; count(0, 2) = 0");
    }

    private static void racesNotIfBothRead() {
        Due.part("terms: one of both is a write");
        Run.of("read(0, 0); read(1, 0); read(2, 0); races(0) = 0; write(3, 0, 1) = 1; races(0) = 1");
        Run.of("write(0, 0, 1); read(1, 0); races(0) = 1; count(1, 2) = 1; write(2, 0, 1) = 1; races(0) = 2");
    }

    private static void racesNotOnAnotherWord() {
        Due.part("terms: an access races with one of the same word");
        Run.of("write(0, 1, 1); write(1, 0, 1) = 0; write(1, 2, 1) = 0; races(0) = 0; races(1) = 0; races(2) = 0",
            "write(1, 1, 1) = 1; races(0) = 0; races(1) = 1; races(2) = 0");
        Run.of("write(0, 63, 1); write(1, 62, 1) = 0; write(1, 63, 1) = 1; races(62) = 0; races(63) = 1");
    }

    private static void racesNotIfTheEarlierIsKnown() {
        Due.part("terms: an access races if the machine does not know the earlier one");
        Run.of("write(0, 0, 1); acquire(0, 0); release(0, 0); acquire(1, 0); write(1, 0, 2) = 0; write(0, 0, 3) = 1",
            "write(1, 0, 4) = 1; races(0) = 2");
        Run.of("mode(0, true); write(0, 0, 1); read(1, 0) = 1; write(1, 0, 2) = 1; races(0) = 2");
    }

    private static void racesOnceWithManyEarlierOnes() {
        Due.part("terms: an access that races with many counts once");
        Run.of("write(0, 0, 1); write(0, 0, 2); read(1, 0); write(2, 0, 3) = 1; count(2, 2) = 1; races(0) = 2",
            "add(3, 0, 1); count(3, 2) = 1; races(0) = 3");
    }

    private static void racesOnlyTheLaterOne() {
        Due.part("terms: only the later of two races");
        Run.of("write(0, 0, 1); write(1, 0, 2) = 1; count(0, 2) = 0; count(1, 2) = 1; races(0) = 1");
    }

    private static void lockKeepsWhatIsKnownThen() {
        Due.part("terms: a lock keeps what the machine knows when it gives it back");
        String[] ways = {"release(0, 0)", "rest(0, 0)"};
        for (String way : ways) {
            Run.of("read(0, 0); acquire(0, 0); keeps(0, 0) = 0; write(0, 0, 1); keeps(0, 0) = 0", way, "keeps(0, 0) = 2",
                "write(0, 1, 1); keeps(0, 0) = 2; acquire(1, 0); knows(1, 0) = 2; keeps(1, 0) = 0");
        }
    }

    private static void lockGoesToTheFirstOfItsRowOnly() {
        Due.part("terms: the first of the row gets the lock and runs");
        String[] ways = {"release(0, 0) = true", "rest(0, 0) = true"};
        for (String way : ways) {
            Run.of("acquire(0, 0); acquire(3, 0); acquire(1, 0); acquire(2, 0)", way,
                "holder(0) = 3; state(3) = 0; state(1) = 1; state(2) = 1; waits(0, false, -1) = 2",
                "waits(0, false, 0) = 1; waits(0, false, 1) = 2; waits(0, false, 2) = REFUSED");
        }
    }

    private static void lockWithAnEmptyRowIsFree() {
        Due.part("terms: a row that is empty");
        Run.of("acquire(0, 0); release(0, 0) = true; holder(0) = REFUSED; acquire(0, 0) = 1; rest(0, 0) = true; holder(0) = REFUSED",
            "waits(0, false, -1) = 0; acquire(1, 0) = 1; holder(0) = 1");
    }

    private static void whoGetsALockKnowsAlsoWhatItKeeps() {
        Due.part("terms: who gets a lock knows also what the lock keeps");
        Run.of("write(0, 0, 1); acquire(0, 0); release(0, 0); write(1, 1, 1); write(2, 2, 1); acquire(2, 1); release(2, 1)",
            "acquire(1, 1); acquire(1, 0); knows(1, 0) = 1; knows(1, 1) = 1; knows(1, 2) = 1; knows(1, 3) = 0; keeps(0, 1) = 0");
        Due.part("terms: who waits for a lock does not know yet what it keeps");
        Run.of("write(0, 0, 1); acquire(0, 0); release(0, 0); acquire(1, 0); acquire(2, 0) = 0; knows(2, 0) = 0",
            "write(1, 1, 1); release(1, 0); knows(2, 0) = 1; knows(2, 1) = 1");
    }

    private static void barrierNeedsAllFour() {
        Due.part("terms: at the barrier machines wait until all four are there");
        Run.of("acquire(0, 0); acquire(1, 0); arrive(0) = 0; arrive(2) = 0; arrive(3) = 0; total(1) = 0; total(2) = 0",
            "state(0) = 2; state(1) = 1; state(2) = 2; state(3) = 2");
        Run.of("acquire(0, 0); rest(0, 0); arrive(1) = 0; arrive(2) = 0; arrive(3) = 0; total(1) = 0; total(2) = 0");
        Run.of("arrive(3) = 0; arrive(1) = 0; arrive(0) = 0; total(1) = 0; arrive(2) = 1; total(1) = 1; total(2) = 4");
    }

    private static void barrierTellsAllThatAnyKnew() {
        Due.part("terms: then all know all that any of them knew");
        Run run = Run.of("write(0, 0, 1); read(1, 8); add(2, 16, 1); write(3, 24, 1); write(3, 25, 1)", ALL_ARRIVE);
        for (int m = 0; m < 4; m++) {
            run.play("knows(" + m + ", 0) = 1; knows(" + m + ", 1) = 1; knows(" + m + ", 2) = 1; knows(" + m + ", 3) = 2");
            run.play("keeps(" + m + ", 0) = 0; keeps(" + m + ", 3) = 0");
        }
        run.play("write(0, 0, 2); knows(1, 0) = 1");
    }
}

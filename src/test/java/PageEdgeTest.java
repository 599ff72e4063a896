/** The edges of promises 11 (refresh), 12 (tidy) and 17 to 23 (has to total), a test each. */
public final class PageEdgeTest {
    private static final String ALL_ARRIVE = Scene.ALL_ARRIVE;
    private static final Scene NEW = Scene.NEW;
    private static final Scene BUSY = Scene.BUSY;
    private static final Scene FULL = Scene.FULL;

    public static void main(String[] args) {
        refreshOfNone();
        refreshOfAMachineThatDoesNotRun();
        refreshWhenNothingIsStale();
        refreshOfOneToEightPages();
        refreshBehind300();
        tidyWithoutAccesses();
        tidyOfOneAnd300();
        tidyIfOneMachineDoesNotKnowOneAccess();
        tidyMovesNothing();
        tidyMakesWordsOfTheLatestWrites();
        tidyForgetsWhatIsKnownOfOthers();
        tidyLeavesLocksAndStates();
        hasOfNone();
        hasOfALazyPage();
        hasOfAStrictPage();
        staleOfNone();
        staleOfFirstAndLast();
        knowsOfNone();
        knowsFromNothingTo300();
        keepsOfNone();
        keepsFromNothingTo300();
        countOfNone();
        countOfEachWhat();
        racesOfNone();
        racesOfFirstAndLast();
        totalOfAnotherWhat();
        totalOfEachWhat();
        questionsChangeNothing();
        Due.end();
    }

    private static void refreshOfNone() {
        Due.part("11 refresh: REFUSED if there is no such machine");
        for (int machine : Edge.outside(4)) {
            Edge.still("refresh(" + machine + ")", Edge.REFUSED, NEW, BUSY, FULL);
        }
    }

    private static void refreshOfAMachineThatDoesNotRun() {
        Due.part("11 refresh: REFUSED if the machine does not run");
        Scene staleAtAll = new Scene(
            "write(0, 0, 1); write(1, 8, 1); " + ALL_ARRIVE + "acquire(0, 0); acquire(1, 0); acquire(2, 1); rest(2, 1); arrive(3); ",
            "release(0, 0); release(1, 0); acquire(0, 1); wake(0, 1, true); release(0, 1); ");
        Run.of(staleAtAll.before, "stale(1, 0) = 1; stale(2, 0) = 1; stale(3, 0) = 1; state(1) = 1; state(2) = 3; state(3) = 2");
        for (int machine = 1; machine < 4; machine++) {
            Edge.still("refresh(" + machine + ")", Edge.REFUSED, staleAtAll, BUSY);
        }
    }

    private static void refreshWhenNothingIsStale() {
        Due.part("11 refresh: 0, and nothing changes, if no page is stale");
        Scene unknown = new Scene("mode(1, true); write(1, 0, 1); write(1, 8, 1); read(1, 16); ", "");
        Scene own = new Scene("write(0, 0, 1); " + ALL_ARRIVE, "");
        Scene onlyStrict = new Scene("mode(1, true); write(1, 8, 1); " + ALL_ARRIVE, "");
        Edge.still("refresh(0)", 0, NEW, unknown, own, onlyStrict);
        Edge.still("refresh(3)", 0, NEW, unknown, onlyStrict);
    }

    private static void refreshOfOneToEightPages() {
        Due.part("11 refresh: how many pages were stale");
        for (int pages = 1; pages <= 8; pages++) {
            Run run = Run.of();
            for (int page = 0; page < pages; page++) {
                run.play("write(0, " + 8 * page + ", 1); write(0, " + (8 * page + 7) + ", 2); write(0, " + 8 * page + ", 3)");
            }
            run.play(ALL_ARRIVE + "refresh(3) = " + pages + "; count(3, 0) = " + pages + "; count(3, 1) = " + 2 * pages);
            run.play("count(3, 3) = 0; total(0) = " + 3 * pages + "; refresh(3) = 0; stale(3, 0) = 0; stale(1, 0) = 1");
            run.play("read(3, " + (8 * pages - 1) + ") = 2; read(3, " + (8 * pages - 8) + ") = 3; count(3, 0) = " + pages);
        }
        Due.part("11 refresh: only the stale ones");
        Run.of("write(0, 8, 1); write(0, 63, 1); " + ALL_ARRIVE + "read(1, 8) = 1; refresh(1) = 1; count(1, 0) = 2; count(1, 1) = 2");
    }

    private static void refreshBehind300() {
        Due.part("11 refresh: makes no access, so 300 do not hinder it");
        Run.of(FULL.before, "refresh(0) = 2; count(0, 1) = 11; stale(0, 0) = 0; stale(0, 2) = 0; total(0) = 300; refresh(0) = 0");
    }

    private static void tidyWithoutAccesses() {
        Due.part("12 tidy: 0 if no accesses are kept");
        Scene rows = new Scene("mode(1, true); acquire(0, 0); acquire(1, 0); acquire(2, 1); rest(2, 1); arrive(3); ",
            "release(0, 0); release(1, 0); acquire(0, 1); wake(0, 1, true); release(0, 1); ");
        Edge.still("tidy()", 0, NEW, rows);
        Run.of("write(0, 0, 7); " + ALL_ARRIVE + "tidy() = 1; tidy() = 0; read(1, 0) = 7");
    }

    private static void tidyOfOneAnd300() {
        Due.part("12 tidy: how many were kept");
        Run.of("read(0, 0); " + ALL_ARRIVE + "tidy() = 1; total(0) = 0");
        Run.of("write(0, 0, 1); ".repeat(299), "write(1, 63, 2); " + ALL_ARRIVE + "tidy() = 300; total(0) = 0; read(2, 0) = 1; read(2, 63) = 2");
    }

    private static void tidyIfOneMachineDoesNotKnowOneAccess() {
        Due.part("12 tidy: REFUSED, and nothing changes, if a machine does not know an access");
        Edge.still("tidy()", Edge.REFUSED, BUSY, FULL, Scene.FREE, new Scene("read(0, 0); ", ""));
        for (int left = 0; left < 4; left++) {
            StringBuilder before = new StringBuilder();
            int maker = (left + 1) % 4;
            before.append("write(" + maker + ", 5, 1); ");
            for (int i = 1; i <= 3; i++) {
                int m = (left + i) % 4;
                before.append("acquire(" + m + ", 0); release(" + m + ", 0); ");
            }
            Edge.still("tidy()", Edge.REFUSED, new Scene(before.toString(), ""));
            Run.of(before.toString(), "acquire(" + left + ", 0); tidy() = 1; total(0) = 0");
        }
        Due.part("12 tidy: REFUSED if only the first, or only the last access is not known");
        Edge.still("tidy()", Edge.REFUSED, new Scene("write(0, 0, 1); " + ALL_ARRIVE + "read(3, 5); ", ""));
        Edge.still("tidy()", Edge.REFUSED, new Scene(
            "write(0, 0, 1); write(1, 1, 2); acquire(1, 1); release(1, 1); acquire(0, 1); acquire(2, 1); acquire(3, 2); ",
            "release(0, 1); release(2, 1); acquire(3, 1); release(3, 1); "));
    }

    private static void tidyMovesNothing() {
        Due.part("12 tidy: all writes are seen by all, nothing is moved by that");
        Run run = Run.of("write(0, 0, 1); write(1, 8, 2); " + ALL_ARRIVE + "stale(2, 0) = 1; stale(2, 1) = 1; tidy() = 2");
        for (int m = 0; m < 4; m++) {
            run.play("stale(" + m + ", 0) = 0; stale(" + m + ", 1) = 0; refresh(" + m + ") = 0; "
                + "count(" + m + ", 0) = 0; count(" + m + ", 1) = 0");
            run.play("read(" + m + ", 0) = 1; read(" + m + ", 8) = 2; count(" + m + ", 0) = 0; count(" + m + ", 1) = 0");
        }
    }

    private static void tidyMakesWordsOfTheLatestWrites() {
        Due.part("12 tidy: words are what the latest writes made them");
        Run.of("mode(1, true); write(0, 0, 1); write(1, 0, 2); write(0, 63, MIN); add(2, 63, 5); write(3, 8, 6); write(2, 8, 7); read(0, 1)",
            ALL_ARRIVE, "tidy() = 7; read(3, 0) = 2; read(3, 63) = 5; read(3, 8) = 7; read(3, 1) = 0",
            ALL_ARRIVE, "tidy() = 4; read(1, 0) = 2; read(1, 63) = 5; read(1, 8) = 7");
    }

    private static void tidyForgetsWhatIsKnownOfOthers() {
        Due.part("12 tidy: all that is known of others is forgotten");
        Run run = Run.of("write(0, 0, 1); write(1, 1, 1); acquire(0, 0); release(0, 0); acquire(1, 0); release(1, 0)",
            ALL_ARRIVE, "keeps(0, 0) = 1; keeps(0, 1) = 1; knows(3, 0) = 1; tidy() = 2");
        for (int n = 0; n < 4; n++) {
            for (int other = 0; other < 4; other++) {
                run.play("knows(" + n + ", " + other + ") = 0; keeps(" + n + ", " + other + ") = 0");
            }
        }
        run.play("write(0, 0, 2); write(1, 1, 2); knows(3, 0) = 0; knows(1, 0) = 0; keeps(0, 0) = 0; keeps(0, 1) = 0");
        run.play("acquire(3, 0) = 1; knows(3, 0) = 0; knows(3, 1) = 0; read(3, 0) = 1; races(0) = 1");
    }

    private static void tidyLeavesLocksAndStates() {
        Due.part("12 tidy: locks, rows and states stay");
        Run.of("write(0, 0, 1); " + ALL_ARRIVE + "acquire(0, 0); acquire(1, 0); acquire(2, 1); rest(2, 1); arrive(3); tidy() = 1",
            "state(0) = 0; state(1) = 1; state(2) = 3; state(3) = 2; holder(0) = 0; waits(0, false, 0) = 1; waits(1, true, 0) = 2",
            "total(1) = 1; total(2) = 1; release(0, 0) = true; holder(0) = 1");
        Due.part("12 tidy: a strict page stays strict");
        Run.of("mode(2, true); write(0, 16, 1); " + ALL_ARRIVE + "tidy() = 1; has(0, 2) = 0; has(0, 1) = 3");
    }

    private static void hasOfNone() {
        Due.part("17 has: REFUSED if there is no such machine or page");
        for (int machine : Edge.outside(4)) {
            Edge.still("has(" + machine + ", 0)", Edge.REFUSED, NEW, BUSY);
            Edge.still("has(" + machine + ", 1)", Edge.REFUSED, BUSY);
            Edge.still("has(" + machine + ", 8)", Edge.REFUSED, BUSY);
        }
        for (int page : Edge.outside(8)) {
            Edge.still("has(0, " + page + ")", Edge.REFUSED, NEW, BUSY);
            Edge.still("has(3, " + page + ")", Edge.REFUSED, BUSY);
        }
    }

    private static void hasOfALazyPage() {
        Due.part("17 has: 3 for a lazy page");
        for (int m = 0; m < 4; m++) {
            Run.of("has(" + m + ", 0) = 3; has(" + m + ", 7) = 3; write(" + m + ", 0, 1); has(" + m + ", 0) = 3; mode(7, true) = false");
        }
    }

    private static void hasOfAStrictPage() {
        Due.part("17 has: 0, 1 and 2 for a strict page");
        for (int m = 0; m < 4; m++) {
            int o = (m + 1) % 4;
            for (int page = 0; page < 8; page += 7) {
                String has = "has(" + m + ", " + page + ") = ";
                Run.of("mode(" + page + ", true); " + has + "0; read(" + m + ", " + 8 * page + "); " + has + "1; "
                    + "write(" + m + ", " + 8 * page + ", 1); " + has + "2; read(" + o + ", " + (8 * page + 7) + "); " + has + "1; "
                    + "write(" + o + ", " + (8 * page + 7) + ", 1); " + has + "0");
            }
        }
    }

    private static void staleOfNone() {
        Due.part("18 stale: REFUSED if there is no such machine or page");
        for (int machine : Edge.outside(4)) {
            Edge.still("stale(" + machine + ", 0)", Edge.REFUSED, NEW, BUSY);
            Edge.still("stale(" + machine + ", 8)", Edge.REFUSED, BUSY);
        }
        for (int page : Edge.outside(8)) {
            Edge.still("stale(0, " + page + ")", Edge.REFUSED, NEW, BUSY);
            Edge.still("stale(3, " + page + ")", Edge.REFUSED, BUSY);
        }
    }

    private static void staleOfFirstAndLast() {
        Due.part("18 stale: of machines 0 and 3, pages 0 and 7");
        Run.of("write(1, 0, 1); write(1, 63, 1); stale(0, 0) = 0; stale(3, 7) = 0; " + ALL_ARRIVE + "stale(0, 0) = 1; stale(0, 7) = 1",
            "stale(3, 0) = 1; stale(3, 7) = 1; stale(1, 0) = 0; stale(1, 7) = 0; read(3, 56); stale(3, 7) = 0; stale(3, 0) = 1; stale(0, 7) = 1");
    }

    private static void knowsOfNone() {
        Due.part("19 knows: REFUSED if one of both is no machine");
        for (int n : Edge.outside(4)) {
            Edge.still("knows(" + n + ", 0)", Edge.REFUSED, NEW, BUSY);
            Edge.still("knows(0, " + n + ")", Edge.REFUSED, NEW, BUSY);
            Edge.still("knows(" + n + ", " + n + ")", Edge.REFUSED, BUSY);
        }
    }

    private static void knowsFromNothingTo300() {
        Due.part("19 knows: of none, and of 300");
        Run.of("knows(0, 0) = 0; knows(3, 3) = 0; knows(3, 0) = 0", "read(3, 0); ".repeat(300),
            "knows(3, 3) = 300; knows(0, 3) = 0; knows(3, 0) = 0; read(3, 0) = NOTHING; knows(3, 3) = 300",
            ALL_ARRIVE, "knows(0, 3) = 300; knows(0, 0) = 0; tidy() = 300; knows(3, 3) = 0; knows(0, 3) = 0");
    }

    private static void keepsOfNone() {
        Due.part("20 keeps: REFUSED if there is no such lock or machine");
        for (int n : Edge.outside(4)) {
            Edge.still("keeps(" + n + ", 0)", Edge.REFUSED, NEW, BUSY);
            Edge.still("keeps(0, " + n + ")", Edge.REFUSED, NEW, BUSY);
            Edge.still("keeps(" + n + ", " + n + ")", Edge.REFUSED, BUSY);
        }
    }

    private static void keepsFromNothingTo300() {
        Due.part("20 keeps: of none, and of 300");
        Run.of("acquire(0, 3); release(0, 3); keeps(3, 0) = 0; keeps(0, 3) = 0; acquire(3, 3)", "add(3, 0, 1); ".repeat(300),
            "keeps(3, 3) = 0; release(3, 3); keeps(3, 3) = 300; keeps(3, 0) = 0; keeps(0, 3) = 0; keeps(2, 3) = 0",
            ALL_ARRIVE, "tidy() = 300; keeps(3, 3) = 0");
    }

    private static void countOfNone() {
        Due.part("21 count: REFUSED if there is no such machine, or for another what");
        for (int machine : Edge.outside(4)) {
            Edge.still("count(" + machine + ", 0)", Edge.REFUSED, NEW, BUSY);
            Edge.still("count(" + machine + ", 4)", Edge.REFUSED, BUSY);
        }
        for (int what : Edge.outside(5)) {
            Edge.still("count(0, " + what + ")", Edge.REFUSED, NEW, BUSY);
            Edge.still("count(3, " + what + ")", Edge.REFUSED, BUSY);
        }
    }

    private static void countOfEachWhat() {
        Due.part("21 count: 0 to 4 of each machine");
        for (int m = 0; m < 4; m++) {
            int o = (m + 1) % 4;
            String count = "count(" + m + ", ";
            Run run = Run.of("mode(0, true); write(" + o + ", 8, 1); read(" + m + ", 8); read(" + m + ", 0); write(" + o + ", 0, 1)",
                count + "0) = 1; " + count + "1) = 8; " + count + "2) = 1; " + count + "3) = 2; " + count + "4) = 1",
                "write(" + o + ", 9, 1); " + ALL_ARRIVE + "read(" + m + ", 15) = 0",
                count + "0) = 2; " + count + "1) = 10; " + count + "2) = 1; " + count + "3) = 3; " + count + "4) = 1");
            for (int other = 0; other < 4; other++) {
                run.play(other == m || other == o ? "" : "count(" + other + ", 0) = 0; count(" + other + ", 3) = 0; count(" + other + ", 4) = 0");
            }
            run.play("count(" + o + ", 0) = 1; count(" + o + ", 2) = 1; count(" + o + ", 3) = 3; count(" + o + ", 4) = 0");
        }
    }

    private static void racesOfNone() {
        Due.part("22 races: REFUSED if there is no such word");
        for (int word : Edge.outside(64)) {
            Edge.still("races(" + word + ")", Edge.REFUSED, NEW, BUSY);
        }
    }

    private static void racesOfFirstAndLast() {
        Due.part("22 races: of words 0 and 63");
        Run.of("races(0) = 0; races(63) = 0; write(0, 0, 1); write(1, 0, 1); write(0, 63, 1); read(3, 63); add(2, 63, 1)",
            "races(0) = 1; races(63) = 2; races(1) = 0; races(62) = 0");
        Due.part("22 races: 299 of one word");
        Run.of("write(0, 0, 1); ", "read(1, 0); ".repeat(299), "races(0) = 299; count(1, 2) = 299; read(1, 0) = NOTHING; races(0) = 299");
    }

    private static void totalOfAnotherWhat() {
        Due.part("23 total: REFUSED for another what");
        for (int what : Edge.outside(3)) {
            Edge.still("total(" + what + ")", Edge.REFUSED, NEW, BUSY);
        }
    }

    private static void totalOfEachWhat() {
        Due.part("23 total: 0 to 2, from the least to the greatest");
        Run.of("total(0) = 0; total(1) = 0; total(2) = 4", "read(0, 0); ".repeat(299), "total(0) = 299; read(1, 1); total(0) = 300; read(1, 1); total(0) = 300",
            ALL_ARRIVE, "total(1) = 1; total(2) = 4; acquire(0, 0); acquire(1, 0); total(2) = 3; arrive(0); total(2) = 2; acquire(2, 1); rest(2, 1)",
            "total(2) = 1; arrive(3); total(2) = 0; total(1) = 1; tidy() = 300; total(0) = 0");
    }

    private static void questionsChangeNothing() {
        Due.part("17 to 23: a question changes nothing");
        Edge.still("has(3, 7)", 2, BUSY, FULL);
        Edge.still("has(1, 1)", 0, BUSY, FULL);
        Edge.still("stale(0, 0)", 1, BUSY, FULL);
        Edge.still("knows(0, 1)", 2, BUSY, FULL);
        Edge.still("keeps(0, 1)", 2, BUSY, FULL);
        Edge.still("count(3, 1)", 16, BUSY, FULL);
        Edge.still("races(8)", 1, BUSY, FULL);
        Edge.still("total(1)", 0, BUSY, FULL);
    }
}

/** A state to make a call in, and calls behind it that bring to light what no question shows. */
final class Scene {
    static final String ALL_ARRIVE = "arrive(0); arrive(1); arrive(2); arrive(3); ";

    static final Scene NEW = new Scene("", ALL_ARRIVE);

    /**
     * Each machine holds the lock of its own number: 0 runs, 1 waits for lock 0, 2 rests at it, and
     * 3 is at the barrier. Pages 1 and 7 are strict; 0, 2 and 3 have the one (2 wrote it), 3 owns the
     * other. Pages 0 and 2 are stale at 0; words 0 and 8 raced.
     */
    static final Scene BUSY = new Scene(
        "mode(1, true); mode(7, true); "
            + "write(0, 0, 5); write(1, 0, 6); write(1, 7, 8); "
            + "write(2, 8, 7); read(0, 9); read(3, 8); "
            + "write(3, 63, 4); read(3, 63); "
            + "acquire(2, 2); acquire(2, 0); write(2, 20, 9); rest(2, 0); "
            + "acquire(1, 0); release(1, 0); acquire(1, 1); acquire(3, 3); "
            + "acquire(0, 0); acquire(1, 0); arrive(3); ",
        "wake(0, 0, true); release(0, 0); release(1, 0); release(2, 0); "
            + "release(1, 1); release(2, 2); arrive(0); arrive(1); arrive(2); release(3, 3); ");

    /** BUSY, which keeps 9 accesses, with 291 more of a page that nobody wrote. */
    static final Scene FULL = new Scene(BUSY.before + "read(0, 40); ".repeat(291), BUSY.after);

    /** Lock 1 is free while 2 rests at it, locks 0, 2 and 3 are free; 3 is at the barrier. */
    static final Scene FREE = new Scene(
        "write(0, 0, 1); acquire(2, 1); write(2, 1, 2); rest(2, 1); arrive(3); ",
        "acquire(0, 1); wake(0, 1, true); release(0, 1); release(2, 1); arrive(0); arrive(1); arrive(2); ");

    final String before;
    final String after;

    Scene(String before, String after) {
        this.before = before;
        this.after = after;
    }
}

import java.util.Arrays;
import java.util.function.Consumer;

/** Promise 4, last paragraph: what holds through every run. Long mixed runs, the same each time. */
final class InvariantTest {
    private static final int RUNS = 400;
    private static final int CALLS = 150;

    private static long seed;

    private final AssocStream x = new AssocStream(Check.KEY, 1 + pick(4), 1 + pick(3), 7);
    private final int[] streams = new int[128];
    private final boolean[] unordered = new boolean[128];
    private final int[] tries = new int[128];
    private final boolean[] acked = new boolean[128];
    private String log = "";
    private int tagBefore = 0;

    public static void main(String[] args) {
        Check.sentence("The delivery log only grows", () -> playAll(InvariantTest::checkLogGrows));
        Check.sentence("a message once ACKED stays so, and TX never decreases", () -> playAll(InvariantTest::checkMessages));
        Check.sentence("a message once RECEIVED stays so", () -> playAll(InvariantTest::checkReceived));
        Check.sentence("Ordered messages of each stream enter the log exactly in rank order",
            () -> playAll(InvariantTest::checkOrder));
        Check.sentence("no id enters the log twice", () -> playAll(InvariantTest::checkOnce));
        Check.sentence("one of CLOSED, COOKIE_WAIT, COOKIE_ECHOED, ESTABLISHED; SERVER TAG never returns to 0",
            () -> playAll(InvariantTest::checkEnds));
        Check.finish();
    }

    private static int pick(int bound) {
        seed = seed * 6364136223846793005L + 1442695040888963407L;
        return (int) ((seed >>> 33) % bound);
    }

    private static void playAll(Consumer<InvariantTest> check) {
        for (int run = 0; run < RUNS; run++) {
            seed = run;
            InvariantTest test = new InvariantTest();
            test.x.connect();
            for (int call = 0; call < CALLS; call++) {
                test.playCall();
                check.accept(test);
            }
        }
    }

    private void playCall() {
        int choice = pick(20);
        if (choice == 0) {
            x.setPath(pick(2), pick(3) > 0);
        } else if (choice == 1) {
            x.loseNext(pick(2), pick(8));
        } else if (choice == 2) {
            Check.echo(x, pick(3) * 7, x.counter(AssocStream.C_NOW) - pick(4));
            x.connect();
        } else if (choice < 12) {
            sendOne(pick(3), pick(4) == 0);
        } else {
            x.run(1 + pick(2), pick(3) == 0 ? pick(8) : 0);
        }
    }

    private void sendOne(int stream, boolean free) {
        int id = x.send(stream, free);
        if (id >= 0) {
            streams[id] = stream;
            unordered[id] = free;
        }
    }

    private void checkLogGrows() {
        String now = Check.log(x);
        Check.due("the log starts as before", now.startsWith(log), true);
        log = now;
    }

    private void checkMessages() {
        for (int id = 0; id < x.counter(AssocStream.C_SUBMITTED); id++) {
            Check.due("TX does not fall", x.transmissions(id) >= tries[id], true);
            Check.due("ACKED stays", x.isAcked(id) || !acked[id], true);
            tries[id] = x.transmissions(id);
            acked[id] = x.isAcked(id);
        }
    }

    /** A message is acked only when received, and a received one is in the log or held. */
    private void checkReceived() {
        int known = x.counter(AssocStream.C_DELIVERED) + x.counter(AssocStream.C_HELD);
        int sure = x.counter(AssocStream.C_SUBMITTED) - x.counter(AssocStream.C_OUTSTANDING);
        Check.due("as many in the log or held as are acked", known >= sure, true);
        Check.due("and no more than were sent", known <= x.counter(AssocStream.C_SUBMITTED), true);
    }

    private void checkOrder() {
        int[] last = new int[8];
        Arrays.fill(last, -1);
        for (int i = 0; i < x.counter(AssocStream.C_DELIVERED); i++) {
            int id = x.deliveredAt(i);
            if (!unordered[id]) {
                for (int between = last[streams[id]] + 1; between < id; between++) {
                    boolean skipped = !unordered[between] && streams[between] == streams[id];
                    Check.due("id " + id + " enters before id " + between, skipped, false);
                }
                Check.due("id " + id + " enters behind a later one", last[streams[id]] < id, true);
                last[streams[id]] = id;
            }
        }
    }

    private void checkOnce() {
        boolean[] seen = new boolean[128];
        for (int i = 0; i < x.counter(AssocStream.C_DELIVERED); i++) {
            int id = x.deliveredAt(i);
            Check.due("id in the log was accepted", id >= 0 && id < x.counter(AssocStream.C_SUBMITTED), true);
            Check.due("id " + id + " is there already", seen[id], false);
            seen[id] = true;
        }
    }

    private void checkEnds() {
        Check.due("STATE is one of the four", x.clientState() >= 0 && x.clientState() <= 3, true);
        Check.due("SERVER TAG is kept", tagBefore == 0 || x.serverTag() == tagBefore, true);
        tagBefore = x.serverTag();
    }
}

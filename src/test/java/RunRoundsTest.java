/** Promise 4: the count of rounds, the bits of mode, the answer, and Step 1. */
final class RunRoundsTest {
    public static void main(String[] args) {
        clampsRounds();
        answersWhatTheWholeCallDelivered();
        looksAtThreeBitsOfMode();
        doesNothingWhenClosed();
        modeHoldsForEveryRoundOfTheCall();
        Check.finish();
    }

    private static void clampsRounds() {
        int[] given = {Check.MIN, -1, 0, 1, 2, 15, 16, 17, 1000, Check.MAX};
        int[] done = {1, 1, 1, 1, 2, 15, 16, 16, 16, 16};
        for (int i = 0; i < given.length; i++) {
            AssocStream x = new AssocStream(1, 1, 1, 1);
            Check.due("run of " + given[i], x.run(given[i], 0), 0);
            Check.due("NOW after run of " + given[i], x.counter(AssocStream.C_NOW), done[i]);
        }
    }

    private static void answersWhatTheWholeCallDelivered() {
        AssocStream x = new AssocStream(1, 1, 1, 1);
        x.connect();
        x.send(0, false);
        x.send(0, false);
        x.send(1, true);
        x.loseNext(0, 1);
        Check.due("handshake, a loss and the second try in one call", x.run(4, 0), 3);
        Check.due("log", Check.log(x), "2 0 1");
        x.send(0, false);
        Check.due("only what this call delivered", x.run(16, 0), 1);
    }

    private static void looksAtThreeBitsOfMode() {
        for (int low = 0; low < 8; low++) {
            String want = afterRunWithMode(low);
            for (int high : new int[] {8, 16, 64, 256, 1 << 30, Check.MIN, -8, 0x7FFFFFF8}) {
                Check.due("mode " + (high | low), afterRunWithMode(high | low), want);
            }
        }
        Check.due("mode -1", afterRunWithMode(-1),
            "state 3 tag 7 primary 0 path 1+ path 0+ counters 3 3 3 3 0 3 0 0 0 messages 1u 1u 1u log 2 0 1");
    }

    private static String afterRunWithMode(int mode) {
        AssocStream x = Check.established(1);
        x.send(0, false);
        x.send(0, false);
        x.send(0, true);
        x.run(1, mode);
        return Check.picture(x);
    }

    private static void doesNothingWhenClosed() {
        AssocStream x = new AssocStream(1, 1, 1, 1);
        x.send(0, true);
        x.setPath(0, false);
        x.setPath(1, false);
        x.run(16, 0);
        Check.due("rounds when CLOSED", Check.picture(x),
            "state 0 tag 0 primary 0 path 0+ path 0+ counters 16 1 1 0 0 0 0 0 0 messages 0u log ");
    }

    private static void modeHoldsForEveryRoundOfTheCall() {
        AssocStream x = Check.established(8);
        x.send(0, true);
        x.run(3, AssocStream.MODE_NO_REPLY | AssocStream.MODE_DUPLICATE);
        Check.due("transmissions over three rounds", x.transmissions(0), 3);
        Check.due("duplicates over three rounds", x.counter(AssocStream.C_DUPLICATES), 5);
        Check.due("acked without a reply", x.isAcked(0), false);
    }
}

/** Promise 4: Step 2 in the states before ESTABLISHED. */
final class RunHandshakeTest {
    private static final int KEY = 4660;

    public static void main(String[] args) {
        opensInTwoRounds();
        initUnanswered();
        echoWithLostReplyStands();
        echoOnADownPathIsNotJudged();
        cookieLivesForLifeRounds();
        staleCookieStartsAnew();
        staleIsCountedWhenTheReplyIsLost();
        staleGoesBeforeTheTags();
        otherTagAborts();
        goesOverThePrimary();
        takesNoLosses();
        Check.finish();
    }

    private static AssocStream connected(int life, int threshold) {
        AssocStream x = new AssocStream(KEY, life, threshold, 7);
        x.connect();
        return x;
    }

    private static void checkOpening(String when, AssocStream x, int state, int tag, int errors) {
        Check.due(when + ": state", x.clientState(), state);
        Check.due(when + ": server tag", x.serverTag(), tag);
        Check.due(when + ": errors of path 0", x.pathErrors(0), errors);
        Check.due(when + ": errors of path 1", x.pathErrors(1), 0);
    }

    private static void checkCounts(String when, AssocStream x, int stale, int aborts) {
        Check.due(when + ": stale", x.counter(AssocStream.C_STALE), stale);
        Check.due(when + ": aborts", x.counter(AssocStream.C_ABORTS), aborts);
    }

    private static void opensInTwoRounds() {
        AssocStream x = connected(1, 1);
        x.send(0, true);
        Check.due("no data in the INIT round", x.run(1, 3), 0);
        checkOpening("after INIT", x, AssocStream.COOKIE_ECHOED, 0, 0);
        Check.due("no data in the echo round", x.run(1, 3), 0);
        checkOpening("after the echo", x, AssocStream.ESTABLISHED, 7, 0);
        Check.due("nothing transmitted yet", x.transmissions(0), 0);
        checkCounts("after the echo", x, 0, 0);
    }

    private static void initUnanswered() {
        AssocStream x = connected(1, 8);
        x.run(1, Check.LOST);
        checkOpening("INIT with its reply lost", x, AssocStream.COOKIE_WAIT, 0, 1);
        x.setPath(0, false);
        x.run(1, 0);
        checkOpening("INIT on a down path", x, AssocStream.COOKIE_WAIT, 0, 2);
        x.setPath(0, true);
        x.run(1, 0);
        checkOpening("INIT answered at last", x, AssocStream.COOKIE_ECHOED, 0, 0);
        x.run(1, 0);
        checkOpening("the stamp is of the answered round", x, AssocStream.ESTABLISHED, 7, 0);
    }

    private static void echoWithLostReplyStands() {
        AssocStream x = connected(4, 8);
        x.run(1, 0);
        x.run(1, Check.LOST);
        checkOpening("echo with its reply lost", x, AssocStream.COOKIE_ECHOED, 7, 1);
        x.run(1, 0);
        checkOpening("the same tag again", x, AssocStream.ESTABLISHED, 7, 0);
    }

    private static void echoOnADownPathIsNotJudged() {
        AssocStream x = connected(1, 8);
        x.run(1, 0);
        x.setPath(0, false);
        x.run(4, 0);
        checkOpening("echo on a down path", x, AssocStream.COOKIE_ECHOED, 0, 4);
        checkCounts("echo on a down path", x, 0, 0);
    }

    private static void cookieLivesForLifeRounds() {
        for (int life = 1; life <= 16; life++) {
            AssocStream x = connected(life, 8);
            x.run(1, 0);
            x.setPath(0, false);
            x.setPath(1, false);
            if (life > 1) {
                x.run(life - 1, 0);
            }
            x.setPath(0, true);
            x.setPath(1, true);
            x.run(1, 0);
            Check.due("echo at age " + life, x.clientState(), AssocStream.ESTABLISHED);
        }
    }

    private static void staleCookieStartsAnew() {
        AssocStream x = connected(2, 8);
        x.run(1, 0);
        x.setPath(0, false);
        x.run(2, 0);
        x.setPath(0, true);
        x.run(1, 0);
        checkOpening("echo one round too old", x, AssocStream.COOKIE_WAIT, 0, 0);
        checkCounts("echo one round too old", x, 1, 0);
        x.run(1, 0);
        checkOpening("a new cookie", x, AssocStream.COOKIE_ECHOED, 0, 0);
        x.run(1, 0);
        checkOpening("the new cookie is fresh", x, AssocStream.ESTABLISHED, 7, 0);
        checkCounts("the new cookie is fresh", x, 1, 0);
    }

    private static void staleIsCountedWhenTheReplyIsLost() {
        AssocStream x = connected(1, 8);
        x.run(1, 0);
        x.setPath(0, false);
        x.run(1, 0);
        x.setPath(0, true);
        x.run(2, Check.LOST);
        checkOpening("stale, the ERROR lost twice", x, AssocStream.COOKIE_ECHOED, 0, 3);
        checkCounts("stale, the ERROR lost twice", x, 2, 0);
    }

    private static void staleGoesBeforeTheTags() {
        AssocStream x = connected(1, 8);
        x.run(1, 0);
        x.run(1, Check.LOST);
        Check.due("server took the tag", x.serverTag(), 7);
        x.run(1, 0);
        checkOpening("stale though the tag agrees", x, AssocStream.COOKIE_WAIT, 7, 0);
        checkCounts("stale though the tag agrees", x, 1, 0);

        AssocStream y = connected(1, 8);
        y.injectEcho(9, 0, Check.mac(KEY, 9, 0));
        y.run(1, 0);
        y.setPath(0, false);
        y.run(1, 0);
        y.setPath(0, true);
        y.run(1, 0);
        checkOpening("stale though the tag differs", y, AssocStream.COOKIE_WAIT, 9, 0);
        checkCounts("stale though the tag differs", y, 1, 0);
    }

    private static void otherTagAborts() {
        AssocStream x = connected(4, 8);
        x.injectEcho(9, 0, Check.mac(KEY, 9, 0));
        x.run(1, 0);
        x.run(1, Check.LOST);
        checkOpening("the ABORT is lost", x, AssocStream.COOKIE_ECHOED, 9, 1);
        checkCounts("the ABORT is lost", x, 0, 0);
        x.run(1, 0);
        checkOpening("ABORT", x, AssocStream.CLOSED, 9, 0);
        checkCounts("ABORT", x, 0, 1);
        x.run(3, 0);
        checkCounts("CLOSED stays quiet", x, 0, 1);
        x.connect();
        x.run(2, 0);
        checkCounts("a second ABORT", x, 0, 2);
        checkOpening("a second ABORT", x, AssocStream.CLOSED, 9, 0);
    }

    private static void goesOverThePrimary() {
        AssocStream x = connected(1, 1);
        x.setPath(0, false);
        x.run(2, 0);
        Check.due("primary after failover", x.primaryPath(), 1);
        x.run(1, 0);
        Check.due("INIT goes over path 1", x.clientState(), AssocStream.COOKIE_ECHOED);
        x.run(1, 0);
        Check.due("the echo goes over path 1", x.clientState(), AssocStream.ESTABLISHED);
        Check.due("errors of path 1", x.pathErrors(1), 0);
        AssocStream y = connected(1, 8);
        y.setPath(1, false);
        y.run(2, 0);
        checkOpening("path 1 down does not matter", y, AssocStream.ESTABLISHED, 7, 0);
    }

    private static void takesNoLosses() {
        AssocStream x = connected(1, 1);
        x.loseNext(0, 1);
        x.run(2, 0);
        checkOpening("a handshake beside LOSE", x, AssocStream.ESTABLISHED, 7, 0);
        x.send(0, true);
        Check.due("the loss waits for data", x.run(1, 0), 0);
    }
}

/** Promise 4: Step 2 in COOKIE_WAIT and COOKIE_ECHOED. */
final class RunHandshakeTest {
    private static final int WAIT = AssocStream.COOKIE_WAIT;
    private static final int ECHOED = AssocStream.COOKIE_ECHOED;

    public static void main(String[] args) {
        Check.sentence("COOKIE_WAIT: If UP[P] and REPLY: ANSWERED[P] = true, STATE = COOKIE_ECHOED.",
            RunHandshakeTest::initAnswered);
        Check.sentence("COOKIE_WAIT: STAMP = NOW", RunHandshakeTest::stampIsOfTheAnsweredRound);
        Check.sentence("COOKIE_WAIT: UP[P] without REPLY", RunHandshakeTest::initReplyLost);
        Check.sentence("COOKIE_WAIT: not UP[P]", RunHandshakeTest::initOnADownPath);
        Check.sentence("COOKIE_WAIT: the server keeps no state", RunHandshakeTest::initLeavesTheServer);
        Check.sentence("the client sends INIT on P, and SENT[P] = true", RunHandshakeTest::initGoesOverThePrimary);
        Check.sentence("(a) it is STALE: C_STALE + 1; ERROR gives STATE = COOKIE_WAIT", RunHandshakeTest::staleGivesError);
        Check.sentence("(a) it is STALE: the first rule that holds, before (b)", () -> checkStaleFirst(0));
        Check.sentence("(a) it is STALE: the first rule that holds, before (c)", () -> checkStaleFirst(7));
        Check.sentence("(a) it is STALE: the first rule that holds, before (d)", () -> checkStaleFirst(9));
        Check.sentence("(a) not STALE at age LIFE", RunHandshakeTest::freshAtItsLastRound);
        Check.sentence("(b) SERVER TAG is 0: SERVER TAG = TAG; COOKIE-ACK gives STATE = ESTABLISHED",
            RunHandshakeTest::listeningServerAccepts);
        Check.sentence("(c) SERVER TAG == TAG: the reply is COOKIE-ACK.", RunHandshakeTest::sameTagIsAccepted);
        Check.sentence("(d) otherwise the reply is ABORT. ABORT gives STATE = CLOSED and C_ABORTS + 1",
            RunHandshakeTest::otherTagAborts);
        Check.sentence("If UP[P] but not REPLY, the server's judgement stands: C_STALE", RunHandshakeTest::lostErrorStands);
        Check.sentence("If UP[P] but not REPLY, the server's judgement stands: a new SERVER TAG",
            RunHandshakeTest::lostCookieAckStands);
        Check.sentence("If UP[P] but not REPLY: STATE is unchanged after an ABORT too", RunHandshakeTest::lostAbortIsUnheard);
        Check.sentence("ANSWERED[P] stays false when the reply is lost", RunHandshakeTest::lostRepliesAreErrors);
        Check.sentence("If not UP[P], nothing is judged; STATE, SERVER TAG and the counters are unchanged.",
            RunHandshakeTest::downPathJudgesNothing);
        Check.sentence("the client sends its cookie on P, and SENT[P] = true", RunHandshakeTest::echoGoesOverThePrimary);
        Check.sentence("ERROR gives STATE = COOKIE_WAIT: the next cookie is fresh", RunHandshakeTest::staleStartsAnew);
        Check.finish();
    }

    /** A client of tag 7 whose cookie the next round judges at this age, LIFE being 2; the server has this tag. */
    private static AssocStream echoing(int age, int serverTag) {
        AssocStream x = new AssocStream(Check.KEY, 2, 8, 7);
        if (serverTag != 0) {
            Check.echo(x, serverTag, 0);
        }
        x.connect();
        x.run(1, 0);
        if (age > 1) {
            x.setPath(0, false);
            x.run(age - 1, 0);
            x.setPath(0, true);
        }
        check("before the echo", x, ECHOED, serverTag, 0, 0);
        return x;
    }

    private static void check(String when, AssocStream x, int state, int serverTag, int stale, int aborts) {
        Check.due(when + ": state", x.clientState(), state);
        Check.due(when + ": server tag", x.serverTag(), serverTag);
        Check.due(when + ": stale", x.counter(AssocStream.C_STALE), stale);
        Check.due(when + ": aborts", x.counter(AssocStream.C_ABORTS), aborts);
    }

    private static AssocStream waiting() {
        AssocStream x = new AssocStream(Check.KEY, 1, 8, 7);
        x.connect();
        return x;
    }

    private static void initAnswered() {
        AssocStream x = waiting();
        x.run(1, 0);
        check("INIT answered", x, ECHOED, 0, 0, 0);
        Check.checkErrors("INIT answered", x, 0, 0);
        AssocStream y = waiting();
        y.run(3, Check.LOST);
        y.run(1, Check.REVERSE | Check.TWICE);
        check("INIT answered at last", y, ECHOED, 0, 0, 0);
        Check.checkErrors("INIT answered at last", y, 0, 0);
    }

    private static void stampIsOfTheAnsweredRound() {
        for (int tries = 1; tries <= 4; tries++) {
            AssocStream x = waiting();
            for (int i = 1; i < tries; i++) {
                x.run(1, Check.LOST);
            }
            x.run(1, 0);
            x.run(1, Check.LOST);
            Check.due("fresh one round after INIT " + tries, x.serverTag(), 7);
            x.run(1, 0);
            Check.due("stale two rounds after INIT " + tries, x.counter(AssocStream.C_STALE), 1);
        }
    }

    private static void initReplyLost() {
        AssocStream x = waiting();
        x.run(1, Check.LOST);
        check("reply lost", x, WAIT, 0, 0, 0);
        Check.checkErrors("reply lost", x, 1, 0);
        x.run(2, Check.LOST);
        Check.checkErrors("reply lost thrice", x, 3, 0);
    }

    private static void initOnADownPath() {
        for (int mode : new int[] {0, Check.LOST}) {
            AssocStream x = waiting();
            x.setPath(0, false);
            x.run(2, mode);
            check("INIT on a down path", x, WAIT, 0, 0, 0);
            Check.checkErrors("INIT on a down path", x, 2, 0);
        }
    }

    private static void initLeavesTheServer() {
        AssocStream x = waiting();
        x.run(1, 0);
        Check.due("server tag", x.serverTag(), 0);
        Check.due("another may come first", Check.echo(x, 9, 1), AssocStream.ECHO_NEW);
        AssocStream y = waiting();
        Check.echo(y, 9, 0);
        y.run(1, 0);
        check("INIT at a server with another tag", y, ECHOED, 9, 0, 0);
    }

    private static void initGoesOverThePrimary() {
        AssocStream x = Situations.cookieWaitFailedOver();
        Check.due("primary", x.primaryPath(), 1);
        x.run(1, Check.LOST);
        Check.checkErrors("INIT and heartbeat unanswered", x, 3, 1);
        x.run(1, 0);
        Check.due("INIT goes over path 1", x.clientState(), ECHOED);
        AssocStream y = waiting();
        y.setPath(1, false);
        y.run(1, 0);
        Check.due("path 1 does not matter to INIT", y.clientState(), ECHOED);
        Check.checkErrors("path 1 does not matter to INIT", y, 0, 0);
    }

    private static void staleGivesError() {
        AssocStream x = echoing(3, 0);
        x.run(1, 0);
        check("one round too old", x, WAIT, 0, 1, 0);
        Check.checkErrors("the ERROR is an answer", x, 0, 0);
    }

    private static void checkStaleFirst(int serverTag) {
        AssocStream x = echoing(3, serverTag);
        x.run(1, 0);
        check("stale, server tag " + serverTag, x, WAIT, serverTag, 1, 0);
    }

    private static void freshAtItsLastRound() {
        AssocStream x = echoing(2, 0);
        x.run(1, 0);
        check("at its last round", x, AssocStream.ESTABLISHED, 7, 0, 0);
        Check.checkErrors("answered", x, 0, 0);
    }

    private static void listeningServerAccepts() {
        AssocStream x = echoing(1, 0);
        x.run(1, 0);
        check("accepted", x, AssocStream.ESTABLISHED, 7, 0, 0);
        Check.checkErrors("accepted", x, 0, 0);
    }

    private static void sameTagIsAccepted() {
        AssocStream x = echoing(1, 7);
        x.run(1, 0);
        check("the tag came from outside before", x, AssocStream.ESTABLISHED, 7, 0, 0);
        AssocStream y = echoing(1, 0);
        y.run(1, Check.LOST);
        y.run(1, 0);
        check("the COOKIE-ACK was lost before", y, AssocStream.ESTABLISHED, 7, 0, 0);
    }

    private static void otherTagAborts() {
        for (int other : new int[] {1, 6, 8, 255}) {
            AssocStream x = echoing(2, 0);
            Check.echo(x, other, 2);
            x.run(1, 0);
            check("server tag " + other, x, AssocStream.CLOSED, other, 0, 1);
            Check.checkErrors("the ABORT is an answer", x, 0, 0);
            x.run(3, 0);
            check("CLOSED stays quiet", x, AssocStream.CLOSED, other, 0, 1);
            x.connect();
            x.run(2, 0);
            check("a second ABORT", x, AssocStream.CLOSED, other, 0, 2);
        }
    }

    private static void lostErrorStands() {
        AssocStream x = echoing(3, 0);
        x.run(1, Check.LOST);
        check("the ERROR is lost", x, ECHOED, 0, 1, 0);
        x.run(2, Check.LOST);
        check("the ERROR is lost thrice", x, ECHOED, 0, 3, 0);
        x.run(1, 0);
        check("the ERROR is heard", x, WAIT, 0, 4, 0);
    }

    private static void lostCookieAckStands() {
        AssocStream x = echoing(1, 0);
        x.run(1, Check.LOST);
        check("the COOKIE-ACK is lost", x, ECHOED, 7, 0, 0);
        Check.due("another comes too late", Check.echo(x, 9, 2), AssocStream.ECHO_BUSY);
        Check.due("the same tag does not", Check.echo(x, 7, 2), AssocStream.ECHO_DUPLICATE);
        x.run(2, Check.LOST);
        check("its cookie ages though it was accepted once", x, ECHOED, 7, 1, 0);
    }

    private static void lostAbortIsUnheard() {
        AssocStream x = echoing(1, 9);
        x.run(1, Check.LOST);
        check("the ABORT is lost", x, ECHOED, 9, 0, 0);
        x.run(1, 0);
        check("the ABORT is heard", x, AssocStream.CLOSED, 9, 0, 1);
    }

    private static void lostRepliesAreErrors() {
        for (int serverTag : new int[] {0, 7, 9}) {
            AssocStream x = echoing(1, serverTag);
            x.run(1, Check.LOST);
            Check.checkErrors("one reply lost", x, 1, 0);
            x.run(3, Check.LOST);
            Check.checkErrors("four replies lost, some of them ERROR", x, 4, 0);
        }
    }

    private static void downPathJudgesNothing() {
        for (int serverTag : new int[] {0, 7, 9}) {
            for (int mode : new int[] {0, Check.LOST}) {
                AssocStream x = echoing(1, serverTag);
                x.setPath(0, false);
                x.run(5, mode);
                check("echo on a down path, fresh and stale", x, ECHOED, serverTag, 0, 0);
                Check.checkErrors("echo on a down path", x, 5, 0);
            }
        }
    }

    private static void echoGoesOverThePrimary() {
        AssocStream x = Situations.cookieWaitFailedOver();
        x.run(1, 0);
        x.run(1, Check.LOST);
        Check.checkErrors("echo and heartbeat unanswered", x, 4, 1);
        x.run(1, 0);
        check("the echo goes over path 1", x, AssocStream.ESTABLISHED, 7, 0, 0);
        Check.checkErrors("the echo goes over path 1", x, 5, 0);
        AssocStream y = echoing(1, 0);
        y.setPath(1, false);
        y.run(1, 0);
        check("path 1 does not matter to the echo", y, AssocStream.ESTABLISHED, 7, 0, 0);
        Check.checkErrors("path 1 does not matter to the echo", y, 0, 0);
    }

    private static void staleStartsAnew() {
        AssocStream x = echoing(3, 0);
        x.run(1, 0);
        x.run(1, 0);
        check("a new cookie", x, ECHOED, 0, 1, 0);
        x.run(1, 0);
        check("which is fresh", x, AssocStream.ESTABLISHED, 7, 1, 0);
    }
}

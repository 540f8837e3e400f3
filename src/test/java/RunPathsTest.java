/** Promise 4: Steps 3 to 5, that is heartbeats, path errors and the primary. */
final class RunPathsTest {
    public static void main(String[] args) {
        Check.sentence("if not ACTIVE[p], a heartbeat is sent on p and SENT[p] = true: path 0", RunPathsTest::heartbeatOnPathZero);
        Check.sentence("if not ACTIVE[p], a heartbeat is sent on p and SENT[p] = true: path 1", RunPathsTest::heartbeatOnPathOne);
        Check.sentence("if not ACTIVE[p]: an active path gets none", RunPathsTest::noHeartbeatOnAnActivePath);
        Check.sentence("if not ACTIVE[p]: not yet in the round of the failure", RunPathsTest::noHeartbeatInTheRoundOfTheFailure);
        Check.sentence("If also UP[p] and REPLY: ANSWERED[p] = true.", RunPathsTest::heartbeatAnswered);
        Check.sentence("If also UP[p] and REPLY: not UP[p]", RunPathsTest::heartbeatOnADownPath);
        Check.sentence("If also UP[p] and REPLY: no REPLY", RunPathsTest::heartbeatWithoutReply);
        Check.sentence("Step 3. Heartbeats: in every STATE", RunPathsTest::heartbeatsInEveryState);
        Check.sentence("if ANSWERED[p], ERRORS[p] = 0 and ACTIVE[p] = true.", RunPathsTest::anAnswerClears);
        Check.sentence("if ANSWERED[p]: by the heartbeat though the chunks were lost", RunPathsTest::heartbeatClearsBesideLosses);
        Check.sentence("Else if SENT[p], ERRORS[p] + 1: once a round, however much was sent", RunPathsTest::oneErrorARound);
        Check.sentence("this also happens while p is inactive", RunPathsTest::errorsGoOnWhileInactive);
        Check.sentence("if ACTIVE[p] and ERRORS[p] > THRESHOLD, ACTIVE[p] = false: the primary", RunPathsTest::thresholdOfThePrimary);
        Check.sentence("if ACTIVE[p] and ERRORS[p] > THRESHOLD, ACTIVE[p] = false: the alternate",
            RunPathsTest::thresholdOfTheAlternate);
        Check.sentence("if ERRORS[p] > THRESHOLD: errors in a row, an answer between starts anew", RunPathsTest::errorsInARow);
        Check.sentence("A path on which nothing was sent and nothing answered keeps its ERRORS and ACTIVE.",
            RunPathsTest::idlePathKeepsErrors);
        Check.sentence("If not ACTIVE[PRIMARY] and ACTIVE[ALTERNATE]: PRIMARY = ALTERNATE: 0 to 1", RunPathsTest::failsOver);
        Check.sentence("If not ACTIVE[PRIMARY] and ACTIVE[ALTERNATE]: PRIMARY = ALTERNATE: 1 to 0", RunPathsTest::failsBack);
        Check.sentence("Otherwise PRIMARY is unchanged: neither is active", RunPathsTest::noneActive);
        Check.sentence("Otherwise PRIMARY is unchanged: both are active", RunPathsTest::bothRecover);
        Check.sentence("Otherwise PRIMARY is unchanged: the alternate alone is inactive", RunPathsTest::alternateInactive);
        Check.sentence("Otherwise PRIMARY is unchanged: the inactive primary alone recovers", RunPathsTest::primaryRecovers);
        Check.sentence("PRIMARY = ALTERNATE when the alternate recovers first", RunPathsTest::alternateRecoversFirst);
        Check.sentence("A recovered path never takes PRIMARY back by itself.", RunPathsTest::noWayBackByItself);
        Check.finish();
    }

    /** Path 0 has failed, path 1 is primary, and the client, of tag 7, waits for a cookie. */
    private static AssocStream failedOver() {
        AssocStream x = new AssocStream(Check.KEY, 2, 1, 7);
        x.connect();
        x.setPath(0, false);
        x.run(2, 0);
        Check.checkErrors("failed over", x, 2, 0);
        Check.checkActive("failed over", x, false, true, 1);
        return x;
    }

    /** As failedOver, but path 1, still the primary, has failed too; both are down. */
    private static AssocStream bothFailed() {
        AssocStream x = failedOver();
        x.setPath(1, false);
        x.run(2, 0);
        Check.checkErrors("both failed", x, 4, 2);
        Check.checkActive("both failed", x, false, false, 1);
        return x;
    }

    /** Path 1, the alternate, has failed and is down; message 0 waits for its fourth try. */
    private static AssocStream alternateFailed() {
        AssocStream x = Check.established(1);
        x.setPath(1, false);
        x.loseNext(0, 1);
        x.send(0, true);
        x.run(3, 0);
        Check.checkErrors("alternate failed", x, 1, 2);
        Check.checkActive("alternate failed", x, true, false, 0);
        return x;
    }

    private static void heartbeatOnPathZero() {
        AssocStream x = failedOver();
        x.run(2, 0);
        Check.checkErrors("two heartbeats, and a handshake on path 1", x, 4, 0);
        x.run(2, 0);
        Check.checkErrors("two more, and nothing else", x, 6, 0);
    }

    private static void heartbeatOnPathOne() {
        AssocStream x = alternateFailed();
        x.run(1, 0);
        Check.checkErrors("a heartbeat, and the message on path 0", x, 0, 3);
        x.run(2, 0);
        Check.checkErrors("two more, and nothing else", x, 0, 5);
        x.setPath(1, true);
        x.run(1, 0);
        Check.checkErrors("answered", x, 0, 0);
        Check.checkActive("answered", x, true, true, 0);
    }

    private static void noHeartbeatOnAnActivePath() {
        AssocStream x = Situations.bothDown();
        x.run(16, 0);
        Check.checkErrors("nothing to send", x, 0, 0);
        AssocStream y = Check.established(8);
        y.send(0, true);
        y.run(1, Check.LOST);
        y.run(4, 0);
        Check.checkErrors("an error is not answered by a heartbeat", y, 1, 0);
    }

    private static void noHeartbeatInTheRoundOfTheFailure() {
        AssocStream x = Check.established(1);
        x.loseNext(0, 2);
        x.send(0, true);
        x.run(1, 0);
        x.send(0, true);
        x.run(1, 0);
        Check.checkErrors("the path is up, but fails by its losses", x, 2, 0);
        Check.checkActive("the path is up, but fails by its losses", x, false, true, 1);
        x.run(1, 0);
        Check.checkErrors("the heartbeat of the next round", x, 0, 0);
        Check.checkActive("the heartbeat of the next round", x, true, true, 1);
    }

    private static void heartbeatAnswered() {
        AssocStream x = failedOver();
        x.setPath(0, true);
        x.run(1, 0);
        Check.checkErrors("revived", x, 0, 0);
        Check.checkActive("revived", x, true, true, 1);
    }

    private static void heartbeatOnADownPath() {
        AssocStream x = failedOver();
        x.run(1, 0);
        Check.checkErrors("still down", x, 3, 0);
        Check.checkActive("still down", x, false, true, 1);
    }

    private static void heartbeatWithoutReply() {
        AssocStream x = failedOver();
        x.run(2, 0);
        x.setPath(0, true);
        x.run(1, Check.LOST);
        Check.checkErrors("up, but the reply is lost", x, 5, 0);
        Check.checkActive("up, but the reply is lost", x, false, true, 1);
        x.run(1, 0);
        Check.checkErrors("the next is answered", x, 0, 0);
    }

    private static void heartbeatsInEveryState() {
        AssocStream x = failedOver();
        Check.echo(x, 9, 2);
        x.run(1, 0);
        Check.checkErrors("COOKIE_WAIT", x, 3, 0);
        x.run(1, 0);
        Check.checkErrors("COOKIE_ECHOED", x, 4, 0);
        Check.due("aborted", x.clientState(), AssocStream.CLOSED);
        x.run(5, 0);
        Check.checkErrors("CLOSED", x, 9, 0);
        x.setPath(0, true);
        x.run(1, 0);
        Check.checkErrors("revived when CLOSED", x, 0, 0);
        Check.checkActive("revived when CLOSED", x, true, true, 1);
    }

    private static void anAnswerClears() {
        AssocStream x = new AssocStream(Check.KEY, 16, 8, 7);
        x.connect();
        x.run(8, Check.LOST);
        Check.checkErrors("eight errors", x, 8, 0);
        x.run(1, 0);
        Check.checkErrors("an answer to INIT", x, 0, 0);
        x.run(8, Check.LOST);
        x.run(1, 0);
        Check.checkErrors("an answer to the echo", x, 0, 0);
        for (int i = 0; i < 8; i++) {
            x.send(0, true);
            x.run(1, Check.LOST);
        }
        Check.checkErrors("first tries on path 0, further ones on path 1", x, 8, 7);
        x.send(0, true);
        x.run(1, 0);
        Check.checkErrors("an answer to data", x, 0, 0);
    }

    private static void heartbeatClearsBesideLosses() {
        AssocStream x = Situations.bothInactive();
        x.setPath(0, true);
        x.loseNext(0, 1);
        Check.due("the chunk is lost", x.run(1, 0), 0);
        Check.due("errors of path 0", x.pathErrors(0), 0);
        Check.checkActive("its heartbeat is answered", x, true, false, 0);
    }

    private static void oneErrorARound() {
        AssocStream x = Check.established(8);
        Check.sendMany(x, 16, 0, true);
        x.setPath(0, false);
        x.run(1, 0);
        Check.checkErrors("sixteen chunks lost", x, 1, 0);
        AssocStream y = bothFailed();
        y.run(1, 0);
        Check.checkErrors("INIT and heartbeat on path 1", y, 5, 3);
        AssocStream z = Situations.bothInactive();
        z.run(1, 0);
        Check.checkErrors("chunk and heartbeat on path 0", z, 14, 16);
    }

    private static void errorsGoOnWhileInactive() {
        AssocStream x = bothFailed();
        for (int call = 0; call < 5000; call++) {
            x.run(16, 0);
        }
        Check.checkErrors("80000 rounds later", x, 80004, 80002);
        Check.checkActive("80000 rounds later", x, false, false, 1);
        Check.setBoth(x, true);
        x.run(1, 0);
        Check.checkErrors("one answer clears them all", x, 0, 0);
    }

    private static void thresholdOfThePrimary() {
        for (int threshold = 1; threshold <= 8; threshold++) {
            AssocStream x = new AssocStream(Check.KEY, 1, threshold, 7);
            x.connect();
            Check.setBoth(x, false);
            x.run(threshold, 0);
            Check.checkErrors("at threshold " + threshold, x, threshold, 0);
            Check.checkActive("at threshold " + threshold, x, true, true, 0);
            x.run(1, 0);
            Check.checkErrors("past threshold " + threshold, x, threshold + 1, 0);
            Check.checkActive("past threshold " + threshold, x, false, true, 1);
            x.run(threshold, 0);
            Check.checkActive("path 1 at threshold " + threshold, x, false, true, 1);
            x.run(1, 0);
            Check.checkActive("path 1 past threshold " + threshold, x, false, false, 1);
        }
    }

    private static void thresholdOfTheAlternate() {
        for (int threshold = 1; threshold <= 8; threshold++) {
            AssocStream x = Check.established(threshold);
            x.setPath(1, false);
            x.loseNext(0, 1);
            x.send(0, true);
            x.run(1, 0);
            x.run(threshold, 0);
            Check.checkErrors("at threshold " + threshold, x, 1, threshold);
            Check.checkActive("at threshold " + threshold, x, true, true, 0);
            x.run(1, 0);
            Check.checkErrors("past threshold " + threshold, x, 1, threshold + 1);
            Check.checkActive("past threshold " + threshold, x, true, false, 0);
        }
    }

    private static void errorsInARow() {
        AssocStream x = new AssocStream(Check.KEY, 1, 2, 7);
        x.connect();
        for (int i = 0; i < 3; i++) {
            x.run(2, Check.LOST);
            Check.checkErrors("two errors", x, 2, 0);
            x.run(1, 0);
            Check.checkErrors("answered", x, 0, 0);
        }
        Check.checkActive("never past the threshold", x, true, true, 0);
    }

    private static void idlePathKeepsErrors() {
        AssocStream x = Check.established(3);
        x.send(0, true);
        x.run(1, Check.LOST);
        x.run(2, Check.LOST);
        Check.checkErrors("errors of both", x, 1, 2);
        x.run(1, 0);
        Check.checkErrors("path 0 had nothing", x, 1, 0);
        x.run(16, 0);
        Check.checkErrors("neither had anything", x, 1, 0);
        Check.checkActive("neither had anything", x, true, true, 0);
        x.send(0, true);
        x.run(1, 0);
        Check.checkErrors("path 0 answered, path 1 had nothing", x, 0, 0);
        AssocStream y = Check.established(1);
        y.loseNext(0, 1);
        y.loseNext(1, 1);
        y.send(0, true);
        y.run(2, 0);
        Check.checkErrors("an error of each", y, 1, 1);
        y.run(1, 0);
        Check.checkErrors("path 1 answered", y, 1, 0);
        y.loseNext(0, 1);
        y.send(0, true);
        y.run(1, 0);
        Check.checkErrors("the kept error counts on", y, 2, 0);
        Check.checkActive("the kept error counts on", y, false, true, 1);
    }

    private static void failsOver() {
        AssocStream x = Check.established(1);
        x.setPath(0, false);
        x.send(0, true);
        x.run(1, 0);
        Check.checkActive("at the threshold", x, true, true, 0);
        x.send(0, true);
        x.run(1, 0);
        Check.checkActive("in the very round of the failure", x, false, true, 1);
        Check.due("the next message goes over path 1", x.send(0, true), 2);
        x.run(1, 0);
        Check.due("once", x.transmissions(2), 1);
        Check.due("and is acked", x.isAcked(2), true);
    }

    private static void failsBack() {
        AssocStream x = failedOver();
        x.setPath(0, true);
        x.run(1, 0);
        Check.checkActive("path 0 is back", x, true, true, 1);
        x.setPath(1, false);
        x.run(1, 0);
        Check.checkActive("path 1 at the threshold", x, true, true, 1);
        x.run(1, 0);
        Check.checkActive("path 1 past the threshold", x, true, false, 0);
        x.run(1, 0);
        Check.due("the handshake goes on over path 0", x.counter(AssocStream.C_STALE), 1);
    }

    private static void noneActive() {
        AssocStream x = bothFailed();
        x.run(16, 0);
        Check.checkActive("primary 1 stays", x, false, false, 1);
        AssocStream y = Situations.bothInactive();
        y.run(16, 0);
        Check.checkActive("primary 0 stays", y, false, false, 0);
    }

    private static void bothRecover() {
        AssocStream x = bothFailed();
        Check.setBoth(x, true);
        x.run(1, 0);
        Check.checkActive("both recover, primary 1", x, true, true, 1);
        AssocStream y = Situations.bothInactive();
        Check.setBoth(y, true);
        y.run(1, 0);
        Check.checkActive("both recover, primary 0", y, true, true, 0);
    }

    private static void alternateInactive() {
        AssocStream x = alternateFailed();
        x.run(5, 0);
        Check.checkActive("the alternate does not matter", x, true, false, 0);
        AssocStream y = failedOver();
        y.run(5, 0);
        Check.checkActive("nor does path 0 as alternate", y, false, true, 1);
    }

    private static void primaryRecovers() {
        AssocStream x = bothFailed();
        x.setPath(1, true);
        x.run(1, 0);
        Check.checkActive("path 1 recovers", x, false, true, 1);
        AssocStream y = Situations.bothInactive();
        y.setPath(0, true);
        y.run(1, 0);
        Check.checkActive("path 0 recovers", y, true, false, 0);
    }

    private static void alternateRecoversFirst() {
        AssocStream x = bothFailed();
        x.setPath(0, true);
        x.run(1, 0);
        Check.checkErrors("path 0 recovers", x, 0, 3);
        Check.checkActive("path 0 recovers", x, true, false, 0);
        AssocStream y = Situations.bothInactive();
        y.setPath(1, true);
        y.run(1, 0);
        Check.checkActive("path 1 recovers", y, false, true, 1);
    }

    private static void noWayBackByItself() {
        AssocStream x = failedOver();
        x.setPath(0, true);
        x.run(16, 0);
        Check.checkActive("path 0 is back for long", x, true, true, 1);
        for (int id = 0; id < 16; id++) {
            x.send(0, true);
            x.run(1, 0);
        }
        Check.checkActive("data flows", x, true, true, 1);
        x.setPath(0, false);
        x.send(0, true);
        Check.due("over path 1", x.run(1, 0), 1);
    }
}

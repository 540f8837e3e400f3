/** Promise 4: Steps 3 to 5, that is heartbeats, path errors and the primary. */
final class RunPathsTest {
    public static void main(String[] args) {
        failsOverPastTheThreshold();
        heartbeatsReviveAPath();
        revivedPathDoesNotTakePrimaryBack();
        heartbeatsNeedAReply();
        heartbeatsGoOnWhenClosed();
        heartbeatsTakeNoLosses();
        bothInactiveKeepsPrimaryUntilOneRecovers();
        dataUsesAnInactivePrimaryWhenNoOtherIsActive();
        inactiveAlternateLeavesPrimary();
        Check.finish();
    }

    private static void checkPath(String when, AssocStream x, int path, int errors, boolean active) {
        Check.due(when + ": errors of path " + path, x.pathErrors(path), errors);
        Check.due(when + ": path " + path + " active", x.pathActive(path), active);
    }

    /** Path 0 has failed, path 1 is primary, and the client waits for a cookie. */
    private static AssocStream failedOver() {
        AssocStream x = new AssocStream(4660, 2, 1, 7);
        x.connect();
        x.setPath(0, false);
        x.run(2, 0);
        checkPath("failed over", x, 0, 2, false);
        checkPath("failed over", x, 1, 0, true);
        Check.due("failed over: primary", x.primaryPath(), 1);
        return x;
    }

    private static void failsOverPastTheThreshold() {
        AssocStream x = new AssocStream(4660, 2, 3, 7);
        x.connect();
        x.setPath(0, false);
        x.run(3, 0);
        checkPath("at the threshold", x, 0, 3, true);
        Check.due("primary at the threshold", x.primaryPath(), 0);
        x.run(1, 0);
        checkPath("past the threshold", x, 0, 4, false);
        Check.due("primary past the threshold", x.primaryPath(), 1);
    }

    private static void heartbeatsReviveAPath() {
        AssocStream x = Check.established(1);
        x.loseNext(0, 2);
        x.send(0, true);
        x.run(1, 0);
        checkPath("one error", x, 0, 1, true);
        x.send(0, true);
        x.run(1, 0);
        checkPath("no heartbeat in the round of the failure", x, 0, 2, false);
        Check.due("primary", x.primaryPath(), 1);
        x.run(1, 0);
        checkPath("the heartbeat of the next round", x, 0, 0, true);
    }

    private static void revivedPathDoesNotTakePrimaryBack() {
        AssocStream x = failedOver();
        x.setPath(0, true);
        x.run(3, 0);
        checkPath("revived", x, 0, 0, true);
        Check.due("primary stays", x.primaryPath(), 1);
        x.setPath(1, false);
        x.send(0, true);
        x.run(1, 0);
        checkPath("data goes over path 1", x, 1, 1, true);
        Check.due("and its second try over path 0", x.run(1, 0), 1);
    }

    private static void heartbeatsNeedAReply() {
        AssocStream x = failedOver();
        x.run(1, 0);
        checkPath("heartbeat on a down path", x, 0, 3, false);
        x.setPath(0, true);
        x.run(1, Check.LOST);
        checkPath("heartbeat with its reply lost", x, 0, 4, false);
        x.run(1, 0);
        checkPath("heartbeat answered", x, 0, 0, true);
        x.setPath(0, false);
        x.run(3, 0);
        checkPath("an active path gets no heartbeat", x, 0, 0, true);
    }

    private static void heartbeatsGoOnWhenClosed() {
        AssocStream x = failedOver();
        x.injectEcho(9, 2, Check.mac(4660, 9, 2));
        x.run(2, 0);
        Check.due("aborted", x.clientState(), AssocStream.CLOSED);
        checkPath("heartbeats in the handshake", x, 0, 4, false);
        x.run(5, 0);
        checkPath("heartbeats when CLOSED", x, 0, 9, false);
        checkPath("nothing else is sent", x, 1, 0, true);
        x.setPath(0, true);
        x.run(1, 0);
        checkPath("revived when CLOSED", x, 0, 0, true);
    }

    private static void heartbeatsTakeNoLosses() {
        AssocStream x = failedOver();
        x.run(2, 0);
        x.setPath(0, true);
        x.loseNext(0, 1);
        x.run(1, 0);
        checkPath("a heartbeat beside LOSE", x, 0, 0, true);
        x.loseNext(1, 1);
        x.send(0, true);
        x.run(1, 0);
        Check.due("the loss waited for the second try", x.run(1, 0), 0);
        checkPath("second try lost", x, 0, 1, true);
        checkPath("first try lost", x, 1, 1, true);
    }

    private static AssocStream bothInactive() {
        AssocStream x = failedOver();
        x.setPath(1, false);
        x.run(1, 0);
        checkPath("path 1 at the threshold", x, 1, 1, true);
        x.run(1, 0);
        checkPath("both inactive", x, 0, 4, false);
        checkPath("both inactive", x, 1, 2, false);
        Check.due("primary stays when none is active", x.primaryPath(), 1);
        return x;
    }

    private static void bothInactiveKeepsPrimaryUntilOneRecovers() {
        AssocStream x = bothInactive();
        x.run(2, 0);
        checkPath("one error a round, heartbeat and INIT together", x, 1, 4, false);
        Check.due("primary", x.primaryPath(), 1);
        x.setPath(0, true);
        x.run(1, 0);
        checkPath("path 0 recovers", x, 0, 0, true);
        checkPath("path 1 does not", x, 1, 5, false);
        Check.due("primary moves to the active path", x.primaryPath(), 0);

        AssocStream y = bothInactive();
        y.setPath(0, true);
        y.setPath(1, true);
        y.run(1, 0);
        checkPath("both recover", y, 0, 0, true);
        checkPath("both recover", y, 1, 0, true);
        Check.due("primary stays when it recovers too", y.primaryPath(), 1);

        AssocStream z = bothInactive();
        z.setPath(1, true);
        z.run(1, 0);
        checkPath("the primary alone recovers", z, 1, 0, true);
        Check.due("primary", z.primaryPath(), 1);
    }

    private static void dataUsesAnInactivePrimaryWhenNoOtherIsActive() {
        AssocStream x = Check.established(1);
        x.setPath(0, false);
        x.setPath(1, false);
        x.send(0, false);
        x.run(1, 0);
        x.run(2, 0);
        checkPath("the alternate failed first", x, 1, 2, false);
        x.run(1, 0);
        checkPath("then the primary", x, 0, 2, false);
        Check.due("primary", x.primaryPath(), 0);
        x.setPath(0, true);
        x.loseNext(0, 1);
        Check.due("its chunk is lost", x.run(1, 0), 0);
        checkPath("but its heartbeat is answered", x, 0, 0, true);
        x.setPath(1, true);
        Check.due("the alternate is inactive still, so the primary carries", x.run(1, 0), 1);
        checkPath("the alternate recovers in that round", x, 1, 0, true);
        Check.due("transmissions", x.transmissions(0), 6);
    }

    private static void inactiveAlternateLeavesPrimary() {
        AssocStream x = Check.established(1);
        x.loseNext(0, 1);
        x.setPath(1, false);
        x.send(0, true);
        x.run(3, 0);
        checkPath("alternate failed", x, 1, 2, false);
        checkPath("primary", x, 0, 1, true);
        Check.due("primary path", x.primaryPath(), 0);
    }
}

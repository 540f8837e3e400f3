/** Promise 2. */
final class ConnectTest {
    public static void main(String[] args) {
        Check.sentence("If STATE is not CLOSED, connect() answers false: COOKIE_WAIT",
            () -> checkRefused(Situations.cookieWait(), AssocStream.COOKIE_WAIT));
        Check.sentence("If STATE is not CLOSED, connect() answers false: COOKIE_ECHOED",
            () -> checkRefused(Situations.cookieEchoed(2), AssocStream.COOKIE_ECHOED));
        Check.sentence("If STATE is not CLOSED, connect() answers false: ESTABLISHED",
            () -> checkRefused(Check.established(1), AssocStream.ESTABLISHED));
        Check.sentence("If STATE is not CLOSED, connect() changes nothing.", ConnectTest::refusedChangesNothing);
        Check.sentence("changes nothing: the held STAMP stays", ConnectTest::refusedKeepsTheStamp);
        Check.sentence("Otherwise STATE becomes COOKIE_WAIT and the call answers true.", ConnectTest::opensWhenClosed);
        Check.sentence("Otherwise STATE becomes COOKIE_WAIT: after an ABORT too", ConnectTest::opensAfterAbort);
        Check.sentence("Messages, paths and the server are untouched. NOW does not change.", ConnectTest::touchesStateAlone);
        Check.sentence("Messages, paths are untouched: UP, LOSE and ACTIVE too", ConnectTest::touchesNoPath);
        Check.finish();
    }

    private static void checkRefused(AssocStream x, int state) {
        Check.due("state before", x.clientState(), state);
        Check.due("connect in state " + state, x.connect(), false);
        Check.due("connect again in state " + state, x.connect(), false);
        Check.due("state after", x.clientState(), state);
    }

    private static void refusedChangesNothing() {
        Situations.all().forEach((name, make) -> {
            if (make.get().clientState() != AssocStream.CLOSED) {
                Check.changesNothing("refused connect, " + name, make, AssocStream::connect);
            }
        });
    }

    private static void refusedKeepsTheStamp() {
        AssocStream x = Situations.cookieEchoed(3);
        x.connect();
        x.run(1, 0);
        Check.due("the cookie is as old as it was", x.counter(AssocStream.C_STALE), 1);
        AssocStream y = Situations.cookieEchoed(2);
        y.connect();
        y.run(1, 0);
        Check.due("the cookie is as young as it was", y.clientState(), AssocStream.ESTABLISHED);
    }

    private static void opensWhenClosed() {
        AssocStream x = Situations.made();
        Check.due("connect when new", x.connect(), true);
        Check.due("state", x.clientState(), AssocStream.COOKIE_WAIT);
        AssocStream y = Situations.made();
        y.run(16, 0);
        Check.due("connect after rounds when CLOSED", y.connect(), true);
        Check.due("state", y.clientState(), AssocStream.COOKIE_WAIT);
        y.run(2, 0);
        Check.due("the handshake goes through", y.clientState(), AssocStream.ESTABLISHED);
    }

    private static void opensAfterAbort() {
        AssocStream x = Situations.aborted();
        Check.due("state after an ABORT", x.clientState(), AssocStream.CLOSED);
        Check.due("connect after an ABORT", x.connect(), true);
        Check.due("state after connecting again", x.clientState(), AssocStream.COOKIE_WAIT);
        x.run(1, 0);
        Check.due("a new cookie is held", x.clientState(), AssocStream.COOKIE_ECHOED);
    }

    private static void touchesStateAlone() {
        Situations.all().forEach((name, make) -> {
            AssocStream x = make.get();
            if (x.clientState() == AssocStream.CLOSED) {
                String before = Check.picture(x);
                x.connect();
                Check.due("connect, " + name, Check.picture(x), before.replace("state 0", "state 1"));
            }
        });
        AssocStream y = Situations.made();
        Check.echo(y, 9, 0);
        y.connect();
        Check.due("the server's tag stays", y.serverTag(), 9);
    }

    private static void touchesNoPath() {
        AssocStream x = Situations.made();
        x.loseNext(0, 1);
        x.loseNext(1, 1);
        x.send(0, false);
        x.connect();
        Check.due("the losses are still there, one on each path", x.run(4, 0), 0);
        Check.due("and are used up", x.run(1, 0), 1);
        AssocStream y = Situations.made();
        y.setPath(0, false);
        y.connect();
        y.run(1, 0);
        Check.due("a down path is still down", y.clientState(), AssocStream.COOKIE_WAIT);
        AssocStream z = Situations.cookieWaitFailedOver();
        Check.echo(z, 9, 2);
        z.run(2, 0);
        String before = Check.paths(z);
        z.connect();
        Check.due("an inactive path and the primary stay", Check.paths(z), before);
        Check.due("which are", before, "primary 1 path 4- path 0+");
    }
}

/** Promise 2. */
final class ConnectTest {
    public static void main(String[] args) {
        opensWhenClosed();
        refusesInEveryOtherState();
        opensAgainAfterAbort();
        Check.finish();
    }

    private static void opensWhenClosed() {
        AssocStream x = new AssocStream(4660, 2, 1, 7);
        x.send(3, false);
        x.injectEcho(9, 0, Check.mac(4660, 9, 0));
        x.run(1, 0);
        String before = Check.picture(x);
        Check.due("connect when CLOSED", x.connect(), true);
        Check.due("connect changes STATE alone", Check.picture(x), before.replace("state 0", "state 1"));
    }

    private static void refusesInEveryOtherState() {
        AssocStream x = new AssocStream(4660, 2, 1, 7);
        x.send(0, true);
        x.connect();
        checkRefused(x, AssocStream.COOKIE_WAIT);
        x.run(1, 0);
        checkRefused(x, AssocStream.COOKIE_ECHOED);
        x.run(1, 0);
        checkRefused(x, AssocStream.ESTABLISHED);
        Check.due("run after refused connects", x.run(1, 0), 1);
    }

    private static void checkRefused(AssocStream x, int state) {
        String before = Check.picture(x);
        Check.due("state before connect", x.clientState(), state);
        Check.due("connect in state " + state, x.connect(), false);
        Check.due("a refused connect changes nothing", Check.picture(x), before);
    }

    private static void opensAgainAfterAbort() {
        AssocStream x = new AssocStream(4660, 2, 1, 7);
        x.injectEcho(9, 0, Check.mac(4660, 9, 0));
        x.connect();
        x.run(2, 0);
        Check.due("state after an ABORT", x.clientState(), AssocStream.CLOSED);
        Check.due("connect after an ABORT", x.connect(), true);
        Check.due("state after connecting again", x.clientState(), AssocStream.COOKIE_WAIT);
        Check.due("serverTag is untouched", x.serverTag(), 9);
    }
}

/** Promise 7, and the cookie check of the Terms. */
final class InjectEchoTest {
    private static final int KEY = 4660;

    public static void main(String[] args) {
        knownCheckValues();
        wrongCheckIsForged();
        tagOutsideRangeIsForged();
        stampOutsideRangeIsForged();
        staleEcho();
        newDuplicateAndBusy();
        clientIsNeverAffected();
        clientAgreesWithTheInjectedTag();
        Check.finish();
    }

    private static int echo(AssocStream x, int tag, int stamp) {
        return x.injectEcho(tag, stamp, Check.mac(KEY, tag, stamp));
    }

    /** Reckoned outside Java. */
    private static void knownCheckValues() {
        Check.due("key 1, tag 1, stamp 0", new AssocStream(1, 1, 1, 1).injectEcho(1, 0, 24020), AssocStream.ECHO_NEW);
        Check.due("key 4660, tag 9, stamp 0",
            new AssocStream(KEY, 1, 1, 1).injectEcho(9, 0, 59987), AssocStream.ECHO_NEW);
        AssocStream x = new AssocStream(65535, 16, 1, 1);
        x.run(16, 0);
        Check.due("key 65535, tag 255, stamp 16", x.injectEcho(255, 16, 50848), AssocStream.ECHO_NEW);
    }

    private static void checkForged(AssocStream x, String what, int answer) {
        Check.due(what, answer, AssocStream.ECHO_FORGED);
        Check.due(what + ": server tag", x.serverTag(), 0);
    }

    private static void wrongCheckIsForged() {
        AssocStream x = new AssocStream(KEY, 2, 1, 7);
        int right = Check.mac(KEY, 9, 0);
        int[] wrong = {right + 1, right - 1, right + 65536, right | Check.MIN, -right, ~right, 0, -1, Check.MIN, Check.MAX};
        for (int mac : wrong) {
            checkForged(x, "mac " + mac, x.injectEcho(9, 0, mac));
        }
        checkForged(x, "the mac of another tag", x.injectEcho(8, 0, right));
        checkForged(x, "the mac of another stamp", x.injectEcho(9, 1, right));
        Check.due("forged", x.counter(AssocStream.C_FORGED), wrong.length + 2);
        x.run(4, 0);
        checkForged(x, "forged goes before stale", x.injectEcho(9, 0, right + 1));
        Check.due("stale", x.counter(AssocStream.C_STALE), 0);
    }

    private static void tagOutsideRangeIsForged() {
        AssocStream x = new AssocStream(KEY, 2, 1, 7);
        int[] tags = {Check.MIN, -1, 0, 256, 1000, Check.MAX};
        for (int tag : tags) {
            checkForged(x, "tag " + tag, echo(x, tag, 0));
        }
        Check.due("forged", x.counter(AssocStream.C_FORGED), tags.length);
        x.run(4, 0);
        checkForged(x, "a bad tag goes before stale", echo(x, 256, 0));
        Check.due("stale", x.counter(AssocStream.C_STALE), 0);
        Check.due("tag 255", echo(x, 255, 4), AssocStream.ECHO_NEW);
        Check.due("tag 255 is accepted", x.serverTag(), 255);
        AssocStream y = new AssocStream(KEY, 2, 1, 7);
        Check.due("tag 1", echo(y, 1, 0), AssocStream.ECHO_NEW);
        Check.due("tag 1 is accepted", y.serverTag(), 1);
        Check.due("tag 0 stays forged", echo(y, 0, 0), AssocStream.ECHO_FORGED);
        Check.due("tag 0 leaves the server's tag", y.serverTag(), 1);
    }

    private static void stampOutsideRangeIsForged() {
        AssocStream x = new AssocStream(KEY, 2, 1, 7);
        x.run(5, 0);
        int[] stamps = {Check.MIN, Check.MIN + 5, -2, -1, 6, 7, Check.MAX};
        for (int stamp : stamps) {
            checkForged(x, "stamp " + stamp, echo(x, 9, stamp));
        }
        Check.due("forged", x.counter(AssocStream.C_FORGED), stamps.length);
        Check.due("stale", x.counter(AssocStream.C_STALE), 0);
        Check.due("a stamp of this very round", echo(x, 9, 5), AssocStream.ECHO_NEW);
    }

    private static void staleEcho() {
        AssocStream x = new AssocStream(KEY, 2, 1, 7);
        x.run(3, 0);
        Check.due("one round too old", echo(x, 9, 0), AssocStream.ECHO_STALE);
        Check.due("server tag", x.serverTag(), 0);
        Check.due("stale", x.counter(AssocStream.C_STALE), 1);
        Check.due("forged", x.counter(AssocStream.C_FORGED), 0);
        Check.due("just young enough", echo(x, 9, 1), AssocStream.ECHO_NEW);
        Check.due("stale goes before duplicate", echo(x, 9, 0), AssocStream.ECHO_STALE);
        Check.due("stale goes before busy", echo(x, 8, 0), AssocStream.ECHO_STALE);
        Check.due("stale", x.counter(AssocStream.C_STALE), 3);
    }

    private static void newDuplicateAndBusy() {
        AssocStream x = new AssocStream(KEY, 2, 1, 7);
        Check.due("first", echo(x, 9, 0), AssocStream.ECHO_NEW);
        String before = Check.picture(x);
        Check.due("same tag", echo(x, 9, 0), AssocStream.ECHO_DUPLICATE);
        Check.due("other tag", echo(x, 10, 0), AssocStream.ECHO_BUSY);
        Check.due("the client's own tag", echo(x, 7, 0), AssocStream.ECHO_BUSY);
        Check.due("neither changes anything", Check.picture(x), before);
        Check.due("server tag", x.serverTag(), 9);
    }

    private static void clientIsNeverAffected() {
        AssocStream x = new AssocStream(KEY, 2, 1, 7);
        x.send(0, true);
        x.connect();
        x.run(1, 0);
        String before = Check.picture(x);
        Check.due("echo of the client's tag in COOKIE_ECHOED", echo(x, 7, 1), AssocStream.ECHO_NEW);
        Check.due("SERVER TAG alone changes", Check.picture(x), before.replace("tag 0", "tag 7"));
        x.setPath(0, false);
        x.run(1, 0);
        x.setPath(0, true);
        Check.due("a duplicate with a younger stamp", echo(x, 7, 2), AssocStream.ECHO_DUPLICATE);
        x.setPath(0, false);
        x.run(1, 0);
        x.setPath(0, true);
        x.setPath(1, true);
        x.run(1, 0);
        Check.due("the client's own stamp is kept, so stale", x.counter(AssocStream.C_STALE), 1);
    }

    private static void clientAgreesWithTheInjectedTag() {
        AssocStream x = new AssocStream(KEY, 2, 1, 7);
        echo(x, 7, 0);
        x.connect();
        x.run(2, 0);
        Check.due("the client's echo of the same tag", x.clientState(), AssocStream.ESTABLISHED);
        Check.due("aborts", x.counter(AssocStream.C_ABORTS), 0);
        Check.due("an echo when ESTABLISHED", echo(x, 8, 2), AssocStream.ECHO_BUSY);
        Check.due("the client stays", x.clientState(), AssocStream.ESTABLISHED);
    }
}

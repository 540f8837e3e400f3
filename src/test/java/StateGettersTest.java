import java.util.function.Consumer;

/** Promises 8 to 12: clientState, serverTag, primaryPath, pathErrors, pathActive. */
final class StateGettersTest {
    public static void main(String[] args) {
        Check.sentence("clientState() answers STATE: one of CLOSED, COOKIE_WAIT, COOKIE_ECHOED, ESTABLISHED.",
            StateGettersTest::clientState);
        Check.sentence("clientState: It changes nothing.", () -> checkKeeps("clientState", AssocStream::clientState));
        Check.sentence("serverTag() answers SERVER TAG: 0 while listening", StateGettersTest::serverTagWhileListening);
        Check.sentence("serverTag(): else the accepted tag in 1..255.", StateGettersTest::serverTagAccepted);
        Check.sentence("serverTag: It changes nothing.", () -> checkKeeps("serverTag", AssocStream::serverTag));
        Check.sentence("primaryPath() answers PRIMARY, 0 or 1.", StateGettersTest::primaryPath);
        Check.sentence("primaryPath: It changes nothing.", () -> checkKeeps("primaryPath", AssocStream::primaryPath));
        Check.sentence("pathErrors(path) answers ERRORS[path]", StateGettersTest::pathErrors);
        Check.sentence("pathErrors: or -1 if path is not 0 or 1.", StateGettersTest::pathErrorsOfNoPath);
        Check.sentence("pathErrors: It changes nothing.",
            () -> checkKeeps("pathErrors", x -> eachPath(path -> x.pathErrors(path))));
        Check.sentence("pathActive(path) answers ACTIVE[path]", StateGettersTest::pathActive);
        Check.sentence("pathActive: or false if path is not 0 or 1.", StateGettersTest::pathActiveOfNoPath);
        Check.sentence("pathActive: It changes nothing.",
            () -> checkKeeps("pathActive", x -> eachPath(path -> x.pathActive(path))));
        Check.finish();
    }

    private static void checkKeeps(String getter, Consumer<AssocStream> ask) {
        Situations.all().forEach((name, make) -> Check.changesNothing(getter + ", " + name, make, x -> {
            ask.accept(x);
            ask.accept(x);
        }));
    }

    private static void eachPath(Consumer<Integer> ask) {
        for (int path : Check.NO_PATHS) {
            ask.accept(path);
        }
        ask.accept(0);
        ask.accept(1);
    }

    private static void clientState() {
        AssocStream x = Situations.made();
        Check.due("at the start", x.clientState(), 0);
        x.connect();
        Check.due("after connect", x.clientState(), 1);
        x.run(1, 0);
        Check.due("after INIT", x.clientState(), 2);
        x.run(1, 0);
        Check.due("after the echo", x.clientState(), 3);
        x.run(16, 0);
        Check.due("from then on", x.clientState(), 3);
        Check.due("after an ABORT", Situations.aborted().clientState(), 0);
    }

    private static void serverTagWhileListening() {
        AssocStream x = Situations.cookieWait();
        Check.due("before INIT", x.serverTag(), 0);
        x.run(1, 0);
        Check.due("after INIT", x.serverTag(), 0);
    }

    private static void serverTagAccepted() {
        for (int tag : new int[] {1, 2, 127, 128, 254, 255}) {
            AssocStream x = new AssocStream(Check.KEY, 2, 1, tag);
            x.connect();
            x.run(2, 0);
            Check.due("serverTag", x.serverTag(), tag);
            x.run(16, 0);
            Check.echo(x, 9, 18);
            Check.due("serverTag stays", x.serverTag(), tag);
        }
    }

    private static void primaryPath() {
        AssocStream x = Situations.failedOver();
        Check.due("after path 0 failed", x.primaryPath(), 1);
        x.setPath(0, true);
        x.run(1, 0);
        x.setPath(1, false);
        x.send(0, true);
        x.run(1, 0);
        x.send(0, true);
        x.run(1, 0);
        Check.due("after path 1 failed", x.primaryPath(), 0);
        Check.due("on a new object", Situations.made().primaryPath(), 0);
    }

    private static void pathErrors() {
        AssocStream x = Situations.bothInactive();
        Check.due("pathErrors(0)", x.pathErrors(0), 13);
        Check.due("pathErrors(1)", x.pathErrors(1), 15);
        AssocStream y = Situations.failedOver();
        Check.due("pathErrors(0)", y.pathErrors(0), 2);
        Check.due("pathErrors(1)", y.pathErrors(1), 0);
    }

    private static void pathErrorsOfNoPath() {
        Situations.all().forEach((name, make) -> {
            AssocStream x = make.get();
            for (int path : Check.NO_PATHS) {
                Check.due("pathErrors(" + path + "), " + name, x.pathErrors(path), -1);
            }
        });
    }

    private static void pathActive() {
        AssocStream x = Situations.failedOver();
        Check.due("pathActive(0) after its failure", x.pathActive(0), false);
        Check.due("pathActive(1)", x.pathActive(1), true);
        AssocStream y = Situations.bothDown();
        Check.due("pathActive(0) when down, but not failed", y.pathActive(0), true);
        Check.due("pathActive(1) when down, but not failed", y.pathActive(1), true);
    }

    private static void pathActiveOfNoPath() {
        Situations.all().forEach((name, make) -> {
            AssocStream x = make.get();
            for (int path : Check.NO_PATHS) {
                Check.due("pathActive(" + path + "), " + name, x.pathActive(path), false);
            }
        });
    }
}

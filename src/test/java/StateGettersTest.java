/** Promises 8 to 12: clientState, serverTag, primaryPath, pathErrors, pathActive. */
final class StateGettersTest {
    public static void main(String[] args) {
        clientStateFollowsTheHandshake();
        serverTagIsKept();
        pathAnswers();
        askingChangesNothing();
        Check.finish();
    }

    private static void clientStateFollowsTheHandshake() {
        AssocStream x = new AssocStream(4660, 2, 1, 7);
        Check.due("clientState at the start", x.clientState(), 0);
        x.connect();
        Check.due("clientState after connect", x.clientState(), 1);
        x.run(1, 0);
        Check.due("clientState after INIT", x.clientState(), 2);
        x.run(1, 0);
        Check.due("clientState after the echo", x.clientState(), 3);
    }

    private static void serverTagIsKept() {
        AssocStream x = new AssocStream(4660, 2, 1, 7);
        x.connect();
        x.run(1, 0);
        Check.due("serverTag while listening", x.serverTag(), 0);
        x.run(1, 0);
        Check.due("serverTag after the echo", x.serverTag(), 7);
        x.run(16, 0);
        x.injectEcho(9, 18, Check.mac(4660, 9, 18));
        Check.due("serverTag stays", x.serverTag(), 7);
    }

    private static void pathAnswers() {
        AssocStream x = Check.established(1);
        x.setPath(0, false);
        x.send(0, true);
        x.run(1, 0);
        x.send(0, true);
        x.run(1, 0);
        Check.due("primaryPath", x.primaryPath(), 1);
        Check.due("pathErrors(0)", x.pathErrors(0), 2);
        Check.due("pathErrors(1)", x.pathErrors(1), 0);
        Check.due("pathActive(0)", x.pathActive(0), false);
        Check.due("pathActive(1)", x.pathActive(1), true);
        for (int path : new int[] {Check.MIN, -2, -1, 2, 3, Check.MAX}) {
            Check.due("pathErrors(" + path + ")", x.pathErrors(path), -1);
            Check.due("pathActive(" + path + ")", x.pathActive(path), false);
        }
    }

    private static void askingChangesNothing() {
        AssocStream asked = new AssocStream(4660, 2, 1, 7);
        AssocStream left = new AssocStream(4660, 2, 1, 7);
        for (int step = 0; step < 12; step++) {
            for (AssocStream x : new AssocStream[] {asked, left}) {
                x.connect();
                x.send(step % 3, step % 2 == 0);
                x.loseNext(step & 1, 1);
                x.setPath(step & 1, step % 3 != 0);
            }
            ask(asked);
            Check.due("an asked object runs as one left alone", asked.run(1, step), left.run(1, step));
        }
        Check.due("an asked object ends as one left alone", Check.picture(asked), Check.picture(left));
    }

    private static void ask(AssocStream x) {
        String before = Check.picture(x);
        for (int i = 0; i < 3; i++) {
            x.clientState();
            x.serverTag();
            x.primaryPath();
            x.pathErrors(i - 1);
            x.pathActive(i - 1);
            x.deliveredAt(i - 1);
            x.transmissions(i - 1);
            x.isAcked(i - 1);
            x.counter(i - 1);
        }
        Check.due("asking changes no answer", Check.picture(x), before);
    }
}

/** Promise 4: Step 2 when ESTABLISHED, that is transmit, process and acknowledge. */
final class RunDataTest {
    private static final int REVERSE = AssocStream.MODE_REVERSE;
    private static final int TWICE = AssocStream.MODE_DUPLICATE;

    public static void main(String[] args) {
        firstTryOnPrimarySecondOnAlternate();
        furtherTriesOnPrimaryWhenAlternateIsInactive();
        lossesTakeTheLowestIdsOfTheirPath();
        aDownPathTakesNoLosses();
        ordersWithinAStreamAlone();
        releasesHeldMessagesUpToTheNextGap();
        reverseProcessesDownwards();
        duplicatesAreDiscarded();
        lostReplyLeavesUnacked();
        acknowledgesAllThatIsReceived();
        noArrivalNoAcknowledgement();
        idleSendsNothing();
        carriesAWholeWindow();
        Check.finish();
    }

    private static void sendOrdered(AssocStream x, int stream, int count) {
        for (int i = 0; i < count; i++) {
            x.send(stream, false);
        }
    }

    private static void checkErrors(String when, AssocStream x, int first, int second) {
        Check.due(when + ": errors of path 0", x.pathErrors(0), first);
        Check.due(when + ": errors of path 1", x.pathErrors(1), second);
    }

    private static void firstTryOnPrimarySecondOnAlternate() {
        AssocStream x = Check.established(8);
        x.setPath(0, false);
        x.send(0, false);
        Check.due("first try on a down primary", x.run(1, 0), 0);
        checkErrors("first try", x, 1, 0);
        Check.due("transmissions", x.transmissions(0), 1);
        Check.due("second try on the alternate", x.run(1, 0), 1);
        checkErrors("second try", x, 1, 0);
        Check.due("transmissions", x.transmissions(0), 2);
        Check.due("acked", x.isAcked(0), true);

        AssocStream y = Check.established(8);
        y.loseNext(0, 1);
        y.setPath(1, false);
        y.send(0, false);
        Check.due("the alternate stays the path of every further try", y.run(5, 0), 0);
        checkErrors("five tries", y, 1, 4);
        Check.due("transmissions", y.transmissions(0), 5);
    }

    private static void furtherTriesOnPrimaryWhenAlternateIsInactive() {
        AssocStream x = Check.established(1);
        x.setPath(1, false);
        x.loseNext(0, 1);
        x.send(0, false);
        Check.due("tries until the alternate is inactive", x.run(3, 0), 0);
        Check.due("alternate", x.pathActive(1), false);
        checkErrors("alternate inactive", x, 1, 2);
        Check.due("the next try takes the primary", x.run(1, 0), 1);
        checkErrors("after it", x, 0, 3);
        Check.due("transmissions", x.transmissions(0), 4);
    }

    private static void lossesTakeTheLowestIdsOfTheirPath() {
        AssocStream x = Check.established(8);
        for (int i = 0; i < 5; i++) {
            x.send(i, true);
        }
        x.loseNext(0, 2);
        x.loseNext(1, 1);
        x.run(1, 0);
        Check.due("two lost on path 0", Check.log(x), "2 3 4");
        checkErrors("an answered path has no error", x, 0, 0);
        x.send(5, true);
        x.run(1, 0);
        Check.due("one lost on path 1, none on path 0", Check.log(x), "2 3 4 1 5");
        x.run(1, 0);
        Check.due("no loss left", Check.log(x), "2 3 4 1 5 0");
        Check.due("transmissions of 0", x.transmissions(0), 3);
        Check.due("transmissions of 1", x.transmissions(1), 2);
        Check.due("transmissions of 2", x.transmissions(2), 1);
    }

    private static void aDownPathTakesNoLosses() {
        AssocStream x = Check.established(8);
        x.setPath(0, false);
        x.loseNext(0, 1);
        x.send(0, true);
        x.run(1, 0);
        x.setPath(0, true);
        x.send(0, true);
        x.run(1, 0);
        Check.due("the loss is still there when the path is up", Check.log(x), "0");
        x.send(0, true);
        x.run(1, 0);
        Check.due("and is used up then", Check.log(x), "0 1 2");
    }

    private static void ordersWithinAStreamAlone() {
        AssocStream x = Check.established(8);
        x.send(0, false);
        x.send(0, false);
        x.send(0, true);
        x.send(1, false);
        x.send(0, false);
        x.loseNext(0, 1);
        Check.due("unordered and other streams go on", x.run(1, 0), 2);
        Check.due("log", Check.log(x), "2 3");
        Check.due("held", x.counter(AssocStream.C_HELD), 2);
        Check.due("held messages are acked too", x.isAcked(1) && x.isAcked(4), true);
        Check.due("the lost one sets them free", x.run(1, 0), 3);
        Check.due("log", Check.log(x), "2 3 0 1 4");
        Check.due("held", x.counter(AssocStream.C_HELD), 0);
    }

    private static void releasesHeldMessagesUpToTheNextGap() {
        AssocStream x = Check.established(8);
        x.loseNext(0, 1);
        sendOrdered(x, 0, 2);
        x.run(1, 0);
        Check.due("held behind the first gap", x.counter(AssocStream.C_HELD), 1);
        x.loseNext(0, 1);
        sendOrdered(x, 0, 2);
        Check.due("only up to the second gap", x.run(1, REVERSE), 2);
        Check.due("log", Check.log(x), "0 1");
        Check.due("still held", x.counter(AssocStream.C_HELD), 1);
        Check.due("the rest", x.run(1, 0), 2);
        Check.due("log", Check.log(x), "0 1 2 3");
    }

    private static void reverseProcessesDownwards() {
        AssocStream x = Check.established(8);
        for (int i = 0; i < 4; i++) {
            x.send(0, true);
        }
        x.run(1, REVERSE);
        Check.due("unordered in reverse", Check.log(x), "3 2 1 0");
        AssocStream y = Check.established(8);
        sendOrdered(y, 2, 3);
        sendOrdered(y, 1, 2);
        y.send(2, true);
        y.run(1, REVERSE);
        Check.due("ordered in reverse", Check.log(y), "5 3 4 0 1 2");
        AssocStream z = Check.established(8);
        z.loseNext(0, 2);
        z.send(0, true);
        z.send(0, true);
        z.run(1, 0);
        z.send(0, true);
        z.send(0, true);
        z.run(1, REVERSE);
        Check.due("chunks of both paths in one list", Check.log(z), "3 2 1 0");
    }

    private static void duplicatesAreDiscarded() {
        AssocStream x = Check.established(8);
        sendOrdered(x, 0, 2);
        x.send(0, true);
        Check.due("each is delivered once", x.run(1, TWICE), 3);
        Check.due("log", Check.log(x), "0 1 2");
        Check.due("duplicates", x.counter(AssocStream.C_DUPLICATES), 3);
        AssocStream y = Check.established(8);
        sendOrdered(y, 0, 2);
        y.send(0, true);
        y.run(1, TWICE | REVERSE);
        Check.due("log", Check.log(y), "2 0 1");
        Check.due("copies of held messages count", y.counter(AssocStream.C_DUPLICATES), 3);
        AssocStream z = Check.established(8);
        z.loseNext(0, 1);
        sendOrdered(z, 0, 2);
        z.run(1, TWICE);
        Check.due("lost chunks have no copies", z.counter(AssocStream.C_DUPLICATES), 1);
        Check.due("held", z.counter(AssocStream.C_HELD), 1);
    }

    private static void lostReplyLeavesUnacked() {
        AssocStream x = Check.established(8);
        sendOrdered(x, 0, 2);
        Check.due("delivered though the reply is lost", x.run(1, Check.LOST), 2);
        Check.due("acked", x.isAcked(0) || x.isAcked(1), false);
        Check.due("outstanding", x.counter(AssocStream.C_OUTSTANDING), 2);
        checkErrors("reply lost", x, 1, 0);
        Check.due("not delivered again", x.run(1, TWICE), 0);
        Check.due("duplicates", x.counter(AssocStream.C_DUPLICATES), 4);
        Check.due("acked", x.isAcked(0) && x.isAcked(1), true);
        checkErrors("the second try was on path 1", x, 1, 0);
        x.run(3, 0);
        Check.due("acked messages are not sent again", x.transmissions(1), 2);
    }

    private static void acknowledgesAllThatIsReceived() {
        AssocStream x = Check.established(8);
        x.send(0, true);
        x.run(1, Check.LOST);
        x.setPath(1, false);
        x.send(0, true);
        x.run(1, 0);
        Check.due("acked though its own second try was lost", x.isAcked(0), true);
        Check.due("acked", x.isAcked(1), true);
        checkErrors("only the path of the arrival answers", x, 0, 1);
        AssocStream y = Check.established(8);
        y.loseNext(0, 1);
        y.send(0, true);
        y.send(1, true);
        y.run(1, 0);
        Check.due("what was lost is not acked", y.isAcked(0), false);
        Check.due("what arrived is", y.isAcked(1), true);
    }

    private static void noArrivalNoAcknowledgement() {
        AssocStream x = Check.established(8);
        x.send(0, true);
        x.run(1, Check.LOST);
        x.loseNext(1, 1);
        x.run(1, 0);
        Check.due("received, but nothing arrived to be answered", x.isAcked(0), false);
        checkErrors("nothing arrived", x, 1, 1);
        x.run(1, 0);
        Check.due("acked", x.isAcked(0), true);
        checkErrors("path 1 answered", x, 1, 0);
    }

    private static void idleSendsNothing() {
        AssocStream x = Check.established(1);
        x.setPath(0, false);
        x.setPath(1, false);
        x.run(16, 0);
        checkErrors("nothing to send", x, 0, 0);
        Check.due("primary", x.primaryPath(), 0);
    }

    private static void carriesAWholeWindow() {
        AssocStream x = Check.established(8);
        for (int round = 0; round < 8; round++) {
            for (int i = 0; i < 16; i++) {
                x.send(i % 8, i % 4 == 3);
            }
            Check.due("a window in a round", x.run(1, round & 3), 16);
        }
        Check.due("all delivered", x.counter(AssocStream.C_DELIVERED), 128);
        Check.due("none outstanding", x.counter(AssocStream.C_OUTSTANDING), 0);
    }
}

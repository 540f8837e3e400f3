/** Promise 4: Step 2 when ESTABLISHED, part 1, Transmit. */
final class RunTransmitTest {
    public static void main(String[] args) {
        Check.sentence("Take every UNACKED message m: all of a window", RunTransmitTest::takesAWholeWindow);
        Check.sentence("Take every UNACKED message m: RECEIVED ones too", RunTransmitTest::takesReceivedOnes);
        Check.sentence("Take every UNACKED message m: no ACKED one", RunTransmitTest::takesNoAckedOne);
        Check.sentence("in increasing id order", RunTransmitTest::lowestIdsGoFirst);
        Check.sentence("Its path q is P if TX of m is 0: PRIMARY 0", RunTransmitTest::firstTryOnPathZero);
        Check.sentence("Its path q is P if TX of m is 0: PRIMARY 1", RunTransmitTest::firstTryOnPathOne);
        Check.sentence("Its path q is P if TX of m is 0: P inactive", RunTransmitTest::firstTryOnAnInactivePrimary);
        Check.sentence("Otherwise q is ALTERNATE if ACTIVE[ALTERNATE]", RunTransmitTest::furtherTriesOnTheAlternate);
        Check.sentence("Otherwise q is ALTERNATE if ACTIVE[ALTERNATE]: PRIMARY 1", RunTransmitTest::furtherTriesOnPathZero);
        Check.sentence("else P.", RunTransmitTest::furtherTriesOnThePrimary);
        Check.sentence("ACTIVE[ALTERNATE] is that of the round before", RunTransmitTest::revivedAlternateServesNextRound);
        Check.sentence("Then TX of m + 1: lost chunks too", RunTransmitTest::lostTriesCount);
        Check.sentence("SENT[q] = true: lost chunks too", RunTransmitTest::lostTriesAreSent);
        Check.sentence("The chunk is lost if not UP[q].", RunTransmitTest::downPathLosesAll);
        Check.sentence("Otherwise, if LOSE[q] > 0: a down path takes no losses", RunTransmitTest::downPathKeepsLosses);
        Check.sentence("if LOSE[q] > 0, then LOSE[q] - 1 and the chunk is lost: it ends at 0", RunTransmitTest::lossesEnd);
        Check.sentence("if LOSE[q] > 0: over several rounds and chunks of both paths", RunTransmitTest::lossesPerPath);
        Check.sentence("Otherwise the chunk arrives on q.", RunTransmitTest::arrivalsAnswerTheirPath);
        Check.sentence("When there is no UNACKED message, nothing is transmitted", RunTransmitTest::nothingToTransmit);
        Check.sentence("no SENT flag is set by this step.", RunTransmitTest::nothingIsSent);
        Check.finish();
    }

    private static void takesAWholeWindow() {
        AssocStream x = Check.established(8);
        for (int window = 0; window < 8; window++) {
            for (int i = 0; i < 16; i++) {
                x.send(i % 8, i % 4 == 3);
            }
            Check.due("a window in a round", x.run(1, window & 3), 16);
        }
        Check.due("all delivered", x.counter(AssocStream.C_DELIVERED), 128);
        for (int id = 0; id < 128; id++) {
            Check.due("transmissions(" + id + ")", x.transmissions(id), 1);
        }
    }

    private static void takesReceivedOnes() {
        AssocStream x = Situations.receivedUnacked();
        x.run(1, 0);
        for (int id = 0; id < 3; id++) {
            Check.due("transmissions(" + id + ")", x.transmissions(id), 2);
        }
    }

    private static void takesNoAckedOne() {
        AssocStream x = Situations.held();
        x.setPath(1, false);
        x.run(5, 0);
        Check.due("the unacked one is sent on", x.transmissions(0) > 1, true);
        for (int id = 1; id < 6; id++) {
            Check.due("transmissions(" + id + ")", x.transmissions(id), 1);
        }
    }

    private static void lowestIdsGoFirst() {
        for (int losses = 0; losses <= 16; losses++) {
            AssocStream x = Check.established(8);
            Check.sendMany(x, 16, 0, true);
            x.loseNext(0, losses);
            x.run(1, 0);
            for (int id = 0; id < 16; id++) {
                Check.due("id " + id + " with " + losses + " losses", x.isAcked(id), id >= losses);
            }
        }
        AssocStream y = Check.established(8);
        Check.sendMany(y, 4, 0, true);
        y.loseNext(0, 2);
        y.run(1, Check.REVERSE);
        Check.checkLog("reverse does not bear on losses", y, "3 2");
    }

    private static void firstTryOnPathZero() {
        AssocStream x = Check.established(8);
        x.setPath(1, false);
        x.send(0, false);
        Check.due("path 1 does not matter", x.run(1, 0), 1);
        x.setPath(0, false);
        x.setPath(1, true);
        x.send(0, false);
        Check.due("path 0 does", x.run(1, 0), 0);
        Check.checkErrors("the first try", x, 1, 0);
    }

    private static void firstTryOnPathOne() {
        AssocStream x = Situations.failedOver();
        x.setPath(0, true);
        x.run(1, 0);
        Check.checkActive("both are active", x, true, true, 1);
        x.setPath(0, false);
        x.send(1, false);
        Check.due("path 0 does not matter", x.run(1, 0), 1);
        x.setPath(0, true);
        x.setPath(1, false);
        x.send(1, false);
        Check.due("path 1 does", x.run(1, 0), 0);
        Check.checkErrors("the first try", x, 0, 1);
    }

    private static void firstTryOnAnInactivePrimary() {
        AssocStream x = Situations.bothInactive();
        x.setPath(0, true);
        x.send(0, true);
        Check.due("both messages go over path 0", x.run(1, 0), 2);
        AssocStream y = Situations.bothInactive();
        y.setPath(1, true);
        y.send(0, true);
        Check.due("none goes over path 1", y.run(1, 0), 0);
    }

    private static void furtherTriesOnTheAlternate() {
        AssocStream x = Check.established(8);
        x.setPath(0, false);
        x.send(0, false);
        x.run(1, 0);
        Check.due("second try", x.run(1, 0), 1);
        Check.checkErrors("second try", x, 1, 0);
        AssocStream y = Check.established(8);
        y.loseNext(0, 1);
        y.setPath(1, false);
        y.send(0, false);
        Check.due("every further try takes the alternate", y.run(5, 0), 0);
        Check.checkErrors("five tries", y, 1, 4);
    }

    private static void furtherTriesOnPathZero() {
        AssocStream x = Situations.failedOver();
        x.setPath(0, true);
        x.run(1, 0);
        x.loseNext(1, 1);
        x.send(1, false);
        x.run(1, 0);
        x.setPath(0, false);
        x.run(1, 0);
        Check.checkErrors("first try on path 1, second on path 0", x, 1, 1);
        x.setPath(0, true);
        Check.due("third try on path 0", x.run(1, 0), 1);
        Check.checkErrors("third try on path 0", x, 0, 1);
    }

    private static void furtherTriesOnThePrimary() {
        AssocStream x = Check.established(1);
        x.setPath(1, false);
        x.loseNext(0, 1);
        x.send(0, false);
        Check.due("tries until the alternate is inactive", x.run(3, 0), 0);
        Check.checkActive("alternate inactive", x, true, false, 0);
        Check.checkErrors("alternate inactive", x, 1, 2);
        Check.due("the next try takes the primary", x.run(1, 0), 1);
        Check.checkErrors("the next try takes the primary", x, 0, 3);
        Check.due("transmissions", x.transmissions(0), 4);
    }

    private static void revivedAlternateServesNextRound() {
        AssocStream x = Check.established(1);
        x.setPath(1, false);
        x.loseNext(0, 3);
        x.send(0, false);
        x.run(3, 0);
        x.setPath(1, true);
        Check.due("the primary in the round of the heartbeat", x.run(1, 0), 0);
        Check.checkErrors("the primary in the round of the heartbeat", x, 2, 0);
        Check.due("the alternate in the next", x.run(1, 0), 1);
    }

    private static void lostTriesCount() {
        AssocStream x = Check.established(8);
        x.send(0, true);
        x.setPath(0, false);
        x.run(1, 0);
        Check.due("lost on a down path", x.transmissions(0), 1);
        x.loseNext(1, 1);
        x.run(1, 0);
        Check.due("lost by LOSE", x.transmissions(0), 2);
        x.run(1, Check.LOST | Check.TWICE);
        Check.due("arrived, reply lost", x.transmissions(0), 3);
        x.run(1, 0);
        Check.due("arrived, answered", x.transmissions(0), 4);
        x.run(1, 0);
        Check.due("acked", x.transmissions(0), 4);
        AssocStream y = Situations.bothInactive();
        for (int call = 0; call < 5000; call++) {
            y.run(16, 0);
        }
        Check.due("80016 tries", y.transmissions(0), 80016);
    }

    private static void lostTriesAreSent() {
        AssocStream x = Check.established(8);
        x.send(0, true);
        x.setPath(0, false);
        x.run(1, 0);
        Check.checkErrors("lost on a down path", x, 1, 0);
        x.loseNext(1, 1);
        x.run(1, 0);
        Check.checkErrors("lost by LOSE", x, 1, 1);
    }

    private static void downPathLosesAll() {
        AssocStream x = Check.established(8);
        Check.sendMany(x, 16, 0, true);
        x.setPath(0, false);
        Check.due("arrivals over path 0", x.run(1, 0), 0);
        x.setPath(0, true);
        x.setPath(1, false);
        Check.due("arrivals over path 1", x.run(1, 0), 0);
        Check.due("outstanding", x.counter(AssocStream.C_OUTSTANDING), 16);
    }

    private static void downPathKeepsLosses() {
        AssocStream x = Check.established(8);
        x.setPath(0, false);
        x.loseNext(0, 1);
        x.send(0, true);
        x.run(1, 0);
        x.setPath(0, true);
        x.send(0, true);
        x.run(1, 0);
        Check.checkLog("the loss is still there when the path is up", x, "0");
        x.send(0, true);
        x.run(1, 0);
        Check.checkLog("and is used up then", x, "0 1 2");
    }

    private static void lossesEnd() {
        AssocStream x = Check.established(8);
        x.loseNext(0, 1);
        Check.sendMany(x, 2, 0, true);
        x.run(1, 0);
        Check.checkLog("one is lost", x, "1");
        Check.sendMany(x, 4, 0, true);
        x.run(1, 0);
        Check.checkLog("no more", x, "1 0 2 3 4 5");
    }

    private static void lossesPerPath() {
        AssocStream x = Check.established(8);
        Check.sendMany(x, 5, 0, true);
        x.loseNext(0, 6);
        x.loseNext(1, 1);
        x.run(1, 0);
        Check.checkLog("five lost on path 0", x, "");
        x.send(0, true);
        x.run(1, 0);
        Check.checkLog("id 0 lost on path 1, id 5 on path 0", x, "1 2 3 4");
        x.send(0, true);
        x.run(1, 0);
        Check.checkLog("no loss left", x, "1 2 3 4 0 5 6");
    }

    private static void arrivalsAnswerTheirPath() {
        AssocStream x = Check.established(8);
        x.send(0, true);
        x.run(1, Check.LOST);
        x.run(1, Check.LOST);
        Check.checkErrors("tried on both", x, 1, 1);
        x.send(0, true);
        x.loseNext(1, 1);
        x.run(1, 0);
        Check.checkErrors("arrived on path 0 alone", x, 0, 2);
        x.loseNext(0, 1);
        x.send(0, true);
        x.run(1, 0);
        x.run(1, 0);
        Check.checkErrors("arrived on path 1 alone", x, 1, 0);
    }

    private static void nothingToTransmit() {
        AssocStream x = Check.established(1);
        x.send(0, true);
        x.run(1, 0);
        Check.due("an idle call", x.run(16, Check.TWICE), 0);
        Check.due("transmissions", x.transmissions(0), 1);
        Check.due("duplicates", x.counter(AssocStream.C_DUPLICATES), 0);
    }

    private static void nothingIsSent() {
        AssocStream x = Situations.bothDown();
        x.run(16, 0);
        Check.checkErrors("never any message", x, 0, 0);
        AssocStream y = Situations.limitDelivered();
        Check.setBoth(y, false);
        y.run(16, 0);
        Check.checkErrors("all messages acked", y, 0, 0);
        AssocStream z = Check.established(1);
        z.run(16, Check.LOST);
        Check.checkErrors("no reply to wait for", z, 0, 0);
    }
}

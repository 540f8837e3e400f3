/** Promise 4: Step 2 when ESTABLISHED, parts 2 and 3, Process and Acknowledge. */
final class RunProcessTest {
    public static void main(String[] args) {
        Check.sentence("The arrived chunks form a list in increasing id order.", RunProcessTest::oneListOfBothPaths);
        Check.sentence("back to front when mode has MODE_REVERSE.", RunProcessTest::reverse);
        Check.sentence("With MODE_DUPLICATE each element is processed twice in a row.", RunProcessTest::twice);
        Check.sentence("MODE_DUPLICATE: every arrived data chunk, so no lost one", RunProcessTest::lostChunksHaveNoCopies);
        Check.sentence("If m is RECEIVED: C_DUPLICATES + 1, and nothing else changes.", RunProcessTest::duplicates);
        Check.sentence("If m is RECEIVED: HELD messages too", RunProcessTest::copiesOfHeldMessages);
        Check.sentence("if m is UNORDERED, m is appended to the log.", RunProcessTest::unorderedAtOnce);
        Check.sentence("if the rank of m == EXPECT[s], m is appended and EXPECT[s] + 1", RunProcessTest::inOrder);
        Check.sentence("as long as a HELD message of stream s has rank EXPECT[s]: a whole window",
            RunProcessTest::releasesAWindow);
        Check.sentence("as long as a HELD message of stream s has rank EXPECT[s]: up to the next gap",
            RunProcessTest::releasesUpToTheNextGap);
        Check.sentence("as long as a HELD message of stream s has rank EXPECT[s]: no other stream",
            RunProcessTest::releasesNoOtherStream);
        Check.sentence("Else m stays HELD.", RunProcessTest::staysHeld);
        Check.sentence("Ordered messages of each stream enter the log exactly in rank order",
            RunProcessTest::rankOrderForEveryLoss);
        Check.sentence("If REPLY: without it nothing is acknowledged", RunProcessTest::noReplyNoAck);
        Check.sentence("If at least one chunk arrived in part 1: with none nothing is acknowledged",
            RunProcessTest::noArrivalNoAck);
        Check.sentence("ANSWERED[q] = true for every path q on which a chunk arrived: both", RunProcessTest::bothPathsAnswer);
        Check.sentence("ANSWERED[q] = true for every path q on which a chunk arrived: a copy", RunProcessTest::copiesAnswer);
        Check.sentence("ANSWERED[q] = true for no path on which none arrived", RunProcessTest::otherPathStaysSilent);
        Check.sentence("every RECEIVED message becomes ACKED: its own chunk lost this time", RunProcessTest::acksAllReceived);
        Check.sentence("every RECEIVED message becomes ACKED: HELD ones", RunProcessTest::acksHeld);
        Check.sentence("every RECEIVED message becomes ACKED: no other", RunProcessTest::acksNoOther);
        Check.finish();
    }

    private static void oneListOfBothPaths() {
        AssocStream x = Check.established(8);
        Check.sendMany(x, 3, 0, true);
        x.loseNext(0, 2);
        x.run(1, 0);
        Check.sendMany(x, 2, 0, true);
        x.run(1, 0);
        Check.checkLog("0 and 1 came over path 1, 3 and 4 over path 0", x, "2 0 1 3 4");
        AssocStream y = Check.established(8);
        Check.sendMany(y, 4, 0, true);
        y.loseNext(0, 4);
        y.run(1, 0);
        y.setPath(1, false);
        y.run(9, 0);
        y.send(0, true);
        y.setPath(1, true);
        y.run(1, 0);
        Check.checkLog("all over path 0 once the alternate is inactive", y, "0 1 2 3 4");
    }

    private static void reverse() {
        for (int count = 1; count <= 16; count++) {
            AssocStream x = Check.established(8);
            Check.sendMany(x, count, 0, true);
            x.run(1, Check.REVERSE);
            for (int i = 0; i < count; i++) {
                Check.due("place " + i + " of " + count + " unordered ones", x.deliveredAt(i), count - 1 - i);
            }
        }
        AssocStream y = Check.established(8);
        Check.sendMany(y, 3, 2, false);
        Check.sendMany(y, 2, 1, false);
        y.send(2, true);
        y.run(1, Check.REVERSE);
        Check.checkLog("ordered", y, "5 3 4 0 1 2");
        AssocStream z = Check.established(8);
        Check.sendMany(z, 2, 0, true);
        z.loseNext(0, 2);
        z.run(1, 0);
        Check.sendMany(z, 2, 0, true);
        z.run(1, Check.REVERSE);
        Check.checkLog("chunks of both paths", z, "3 2 1 0");
        AssocStream single = Check.established(8);
        single.send(0, false);
        Check.due("a list of one", single.run(1, Check.REVERSE), 1);
    }

    private static void twice() {
        for (int order : new int[] {0, Check.REVERSE}) {
            AssocStream x = Check.established(8);
            Check.sendMany(x, 2, 0, false);
            x.send(0, true);
            Check.due("each is delivered once", x.run(1, Check.TWICE | order), 3);
            Check.checkLog("each once", x, order == 0 ? "0 1 2" : "2 0 1");
            Check.due("duplicates", x.counter(AssocStream.C_DUPLICATES), 3);
        }
        AssocStream y = Situations.receivedUnacked();
        y.run(1, Check.TWICE);
        Check.due("two duplicates of each received one", y.counter(AssocStream.C_DUPLICATES), 6);
    }

    private static void lostChunksHaveNoCopies() {
        AssocStream x = Check.established(8);
        Check.sendMany(x, 3, 0, false);
        x.loseNext(0, 2);
        x.run(1, Check.TWICE);
        Check.due("one arrived", x.counter(AssocStream.C_DUPLICATES), 1);
        x.setPath(1, false);
        x.run(1, Check.TWICE);
        Check.due("none arrived", x.counter(AssocStream.C_DUPLICATES), 1);
    }

    private static void duplicates() {
        AssocStream x = Situations.receivedUnacked();
        x.run(1, Check.LOST);
        Check.due("one duplicate each", x.counter(AssocStream.C_DUPLICATES), 3);
        Check.checkLog("not delivered again", x, "0 1 2");
        Check.due("held", x.counter(AssocStream.C_HELD), 0);
        x.send(0, false);
        Check.due("EXPECT is as it was", x.run(1, 0), 1);
        Check.due("and one each again", x.counter(AssocStream.C_DUPLICATES), 6);
    }

    private static void copiesOfHeldMessages() {
        AssocStream x = Check.established(8);
        Check.sendMany(x, 4, 0, false);
        x.loseNext(0, 1);
        x.run(1, Check.LOST);
        Check.due("held", x.counter(AssocStream.C_HELD), 3);
        x.loseNext(1, 1);
        Check.due("copies are delivered no sooner", x.run(1, Check.TWICE | Check.LOST), 0);
        Check.due("duplicates", x.counter(AssocStream.C_DUPLICATES), 6);
        Check.due("still held", x.counter(AssocStream.C_HELD), 3);
        Check.due("the first sets them free", x.run(1, 0), 4);
        Check.checkLog("each once", x, "0 1 2 3");
        Check.due("and their copies count", x.counter(AssocStream.C_DUPLICATES), 9);
    }

    private static void unorderedAtOnce() {
        AssocStream x = Check.established(8);
        x.send(0, false);
        x.send(0, true);
        x.send(0, false);
        x.send(0, true);
        x.loseNext(0, 1);
        Check.due("past the gap of its own stream", x.run(1, 0), 2);
        Check.checkLog("unordered ones", x, "1 3");
        Check.due("EXPECT is untouched, so the gap is filled", x.run(1, 0), 2);
        Check.checkLog("all", x, "1 3 0 2");
    }

    private static void inOrder() {
        AssocStream x = Check.established(8);
        for (int id = 0; id < 128; id++) {
            x.send(3, false);
            Check.due("rank " + id, x.run(1, id & 3), 1);
            Check.due("log", x.deliveredAt(id), id);
        }
    }

    private static void releasesAWindow() {
        AssocStream x = Situations.windowFull();
        Check.due("held", x.counter(AssocStream.C_HELD), 15);
        x.run(1, 0);
        Check.checkLog("in rank order", x, "0 1 2 3 4 5 6 7 8 9 10 11 12 13 14 15");
        Check.due("held", x.counter(AssocStream.C_HELD), 0);
        x.send(4, false);
        Check.due("and EXPECT stands behind them", x.run(1, 0), 1);
    }

    private static void releasesUpToTheNextGap() {
        AssocStream x = Check.established(8);
        Check.sendMany(x, 2, 0, false);
        x.loseNext(0, 1);
        x.run(1, 0);
        Check.sendMany(x, 3, 0, false);
        x.loseNext(0, 1);
        Check.due("only up to the second gap", x.run(1, Check.REVERSE), 2);
        Check.checkLog("up to the gap", x, "0 1");
        Check.due("still held", x.counter(AssocStream.C_HELD), 2);
        Check.due("the rest", x.run(1, 0), 3);
        Check.checkLog("all", x, "0 1 2 3 4");
    }

    private static void releasesNoOtherStream() {
        for (int other = 1; other < 8; other++) {
            AssocStream x = Check.established(8);
            x.send(0, false);
            x.send(other, false);
            x.send(0, false);
            x.send(other, false);
            x.loseNext(0, 2);
            x.run(1, 0);
            Check.due("one held on each stream", x.counter(AssocStream.C_HELD), 2);
            x.setPath(0, false);
            x.loseNext(1, 1);
            Check.due("stream " + other + " alone goes on", x.run(1, 0), 2);
            Check.checkLog("stream " + other, x, "1 3");
            Check.due("stream 0 is held on", x.counter(AssocStream.C_HELD), 1);
        }
    }

    private static void staysHeld() {
        AssocStream x = Check.established(8);
        Check.sendMany(x, 3, 6, false);
        x.loseNext(0, 1);
        x.run(1, 0);
        Check.due("held", x.counter(AssocStream.C_HELD), 2);
        Check.checkLog("nothing", x, "");
        x.setPath(1, false);
        x.run(6, 0);
        Check.due("held for as long as the gap is there", x.counter(AssocStream.C_HELD), 2);
        Check.due("deliveredAt(0)", x.deliveredAt(0), -1);
    }

    private static void rankOrderForEveryLoss() {
        for (int losses = 0; losses <= 6; losses++) {
            for (int mode = 0; mode < 4; mode++) {
                AssocStream x = Check.established(8);
                Check.sendMany(x, 6, 5, false);
                x.loseNext(0, losses);
                x.loseNext(1, losses / 2);
                x.run(3, mode);
                Check.checkLog(losses + " losses, mode " + mode, x, "0 1 2 3 4 5");
            }
        }
    }

    private static void noReplyNoAck() {
        AssocStream x = Check.established(8);
        Check.sendMany(x, 2, 0, false);
        Check.due("delivered though the reply is lost", x.run(1, Check.LOST), 2);
        Check.due("acked", x.isAcked(0) || x.isAcked(1), false);
        Check.due("outstanding", x.counter(AssocStream.C_OUTSTANDING), 2);
        Check.checkErrors("nothing answered", x, 1, 0);
    }

    private static void noArrivalNoAck() {
        AssocStream x = Check.established(8);
        x.send(0, true);
        x.run(1, Check.LOST);
        x.loseNext(1, 1);
        x.run(1, 0);
        Check.due("lost by LOSE", x.isAcked(0), false);
        Check.checkErrors("lost by LOSE", x, 1, 1);
        x.setPath(1, false);
        x.run(1, 0);
        Check.due("lost on a down path", x.isAcked(0), false);
        Check.checkErrors("lost on a down path", x, 1, 2);
        x.setPath(1, true);
        x.run(1, 0);
        Check.due("arrived", x.isAcked(0), true);
    }

    private static void bothPathsAnswer() {
        AssocStream x = Check.established(8);
        x.send(0, true);
        x.run(2, Check.LOST);
        Check.checkErrors("one error each", x, 1, 1);
        x.send(0, true);
        x.run(1, 0);
        Check.checkErrors("id 0 came over path 1, id 1 over path 0", x, 0, 0);
        AssocStream y = Check.established(8);
        Check.sendMany(y, 16, 0, true);
        y.loseNext(0, 15);
        y.run(1, 0);
        Check.checkErrors("one arrival among fifteen losses", y, 0, 0);
    }

    private static void copiesAnswer() {
        AssocStream x = Situations.receivedUnacked();
        x.run(1, Check.LOST);
        Check.checkErrors("one error each", x, 1, 1);
        x.run(1, 0);
        Check.checkErrors("copies alone came over path 1", x, 1, 0);
        Check.due("acked", x.isAcked(0) && x.isAcked(1) && x.isAcked(2), true);
    }

    private static void otherPathStaysSilent() {
        AssocStream x = Check.established(8);
        x.send(0, true);
        x.run(1, Check.LOST);
        x.setPath(1, false);
        x.send(0, true);
        x.run(1, 0);
        Check.checkErrors("path 1 lost its chunk, path 0 did not", x, 0, 1);
    }

    private static void acksAllReceived() {
        AssocStream x = Check.established(8);
        x.send(0, true);
        x.run(1, Check.LOST);
        x.loseNext(1, 1);
        x.send(0, true);
        x.run(1, 0);
        Check.due("acked though its second try was lost", x.isAcked(0), true);
        Check.due("acked", x.isAcked(1), true);
        Check.due("no duplicate", x.counter(AssocStream.C_DUPLICATES), 0);
    }

    private static void acksHeld() {
        AssocStream x = Situations.windowFull();
        for (int id = 1; id < 16; id++) {
            Check.due("held message " + id, x.isAcked(id), true);
        }
        Check.due("none is delivered", x.counter(AssocStream.C_DELIVERED), 0);
    }

    private static void acksNoOther() {
        AssocStream x = Situations.windowFull();
        Check.due("the lost one", x.isAcked(0), false);
        x.setPath(1, false);
        x.send(0, true);
        x.run(2, 0);
        Check.due("the lost one again", x.isAcked(0), false);
        Check.due("outstanding", x.counter(AssocStream.C_OUTSTANDING), 1);
    }
}

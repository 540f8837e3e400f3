/** Promise 3. */
final class SendTest {
    private static final int[] NO_STREAMS = {Check.MIN, Check.MIN + 7, -65536, -256, -8, -2, -1, 8, 9, 15, 16, 255, 256,
        65536, Check.MAX - 7, Check.MAX};

    public static void main(String[] args) {
        Check.sentence("(a) stream is outside 0..STREAMS-1: answers SEND_BAD_STREAM.", SendTest::badStreams);
        Check.sentence("(a) streams 0 to STREAMS-1 are not refused", SendTest::everyStreamIsTaken);
        Check.sentence("(b) MAX_MESSAGES messages were already accepted: answers SEND_LIMIT.", SendTest::limit);
        Check.sentence("MAX_MESSAGES = 128 (messages accepted over the object's life)", SendTest::limitHoldsForLife);
        Check.sentence("(c) an UNACKED id <= accepted - WINDOW: answers SEND_FULL: none acked", SendTest::fullWithNoneAcked);
        Check.sentence("(c) the oldest alone is UNACKED", SendTest::fullForTheOldestAlone);
        Check.sentence("(c) the oldest UNACKED is not id 0", SendTest::spanStartsAtTheOldestUnacked);
        Check.sentence("(c) RECEIVED is not yet ACKED", SendTest::fullWhileRepliesAreLost);
        Check.sentence("(c) some UNACKED message: full until the oldest of several is acked", SendTest::fullUntilTheOldestIsAcked);
        Check.sentence("makes its checks in this order: (a) before (b)", SendTest::streamBeforeLimit);
        Check.sentence("makes its checks in this order: (a) before (c)", SendTest::streamBeforeFull);
        Check.sentence("makes its checks in this order: (b) before (c)", SendTest::limitBeforeFull);
        Check.sentence("A refused call changes nothing: SEND_BAD_STREAM", SendTest::badStreamChangesNothing);
        Check.sentence("A refused call changes nothing: SEND_LIMIT", SendTest::limitChangesNothing);
        Check.sentence("A refused call changes nothing: SEND_FULL", SendTest::fullChangesNothing);
        Check.sentence("A refused call changes nothing: it takes no rank", SendTest::refusedTakesNoRank);
        Check.sentence("UNORDERED if unordered is true (else ORDERED, with the next rank of its stream)", SendTest::ranks);
        Check.sentence("C_SUBMITTED and C_OUTSTANDING each rise by 1. The call answers its id.", SendTest::countsAndAnswers);
        Check.sentence("It is accepted in any client STATE", SendTest::acceptedInEveryState);
        Check.sentence("the message waits until a round in which the client is ESTABLISHED.", SendTest::waits);
        Check.sentence("Nothing else changes: NOW, paths, STATE, the server and the delivery log stay as they were.",
            SendTest::nothingElseChanges);
        Check.finish();
    }

    private static void badStreams() {
        AssocStream x = Situations.made();
        for (int stream : NO_STREAMS) {
            Check.due("send(" + stream + ", false)", x.send(stream, false), AssocStream.SEND_BAD_STREAM);
            Check.due("send(" + stream + ", true)", x.send(stream, true), AssocStream.SEND_BAD_STREAM);
        }
    }

    private static void everyStreamIsTaken() {
        AssocStream x = Check.established(1);
        for (int stream = 0; stream < 8; stream++) {
            Check.due("send(" + stream + ", false)", x.send(stream, false), 2 * stream);
            Check.due("send(" + stream + ", true)", x.send(stream, true), 2 * stream + 1);
        }
        Check.due("all are delivered", x.run(1, 0), 16);
    }

    private static void limit() {
        AssocStream x = Check.established(1);
        for (int id = 0; id < 128; id++) {
            Check.due("send", x.send(id % 8, id % 5 == 0), id);
            x.run(1, 0);
        }
        for (int stream = 0; stream < 8; stream++) {
            Check.due("ordered message 129", x.send(stream, false), AssocStream.SEND_LIMIT);
            Check.due("unordered message 129", x.send(stream, true), AssocStream.SEND_LIMIT);
        }
    }

    private static void limitHoldsForLife() {
        AssocStream x = Situations.limitDelivered();
        Check.due("outstanding", x.counter(AssocStream.C_OUTSTANDING), 0);
        x.run(16, 0);
        Check.due("send long after the last delivery", x.send(0, true), AssocStream.SEND_LIMIT);
        Check.due("submitted", x.counter(AssocStream.C_SUBMITTED), 128);
        Check.due("the last delivered", x.deliveredAt(127), 127);
    }

    private static void fullWithNoneAcked() {
        AssocStream x = Situations.made();
        for (int id = 0; id < 16; id++) {
            Check.due("send within the window", x.send(id % 8, id % 3 == 0), id);
        }
        Check.due("one past the window", x.send(0, false), AssocStream.SEND_FULL);
        Check.due("and again, unordered", x.send(7, true), AssocStream.SEND_FULL);
    }

    private static void fullForTheOldestAlone() {
        AssocStream x = Situations.windowFull();
        Check.due("id 1 is acked", x.isAcked(1), true);
        Check.due("send while id 0 alone is unacked", x.send(0, false), AssocStream.SEND_FULL);
        x.run(1, 0);
        Check.due("send when id 0 is acked", x.send(0, false), 16);
    }

    private static void spanStartsAtTheOldestUnacked() {
        for (int oldest = 1; oldest <= 112; oldest++) {
            AssocStream x = Check.established(8);
            for (int id = 0; id < oldest; id++) {
                x.send(0, true);
                x.run(1, 0);
            }
            for (int id = oldest; id < oldest + 16; id++) {
                Check.due("send from the oldest unacked " + oldest, x.send(0, true), id);
            }
            int want = oldest == 112 ? AssocStream.SEND_LIMIT : AssocStream.SEND_FULL;
            Check.due("one past the window from " + oldest, x.send(0, true), want);
        }
    }

    private static void fullWhileRepliesAreLost() {
        AssocStream x = Check.established(8);
        Check.sendMany(x, 16, 0, false);
        Check.due("all are delivered", x.run(1, Check.LOST), 16);
        Check.due("but none is acked", x.send(0, false), AssocStream.SEND_FULL);
        x.run(1, 0);
        Check.due("all are acked", x.send(0, false), 16);
    }

    private static void fullUntilTheOldestIsAcked() {
        AssocStream x = Check.established(8);
        Check.sendMany(x, 16, 0, true);
        x.loseNext(0, 2);
        x.run(1, 0);
        Check.due("ids 0 and 1 are unacked", x.send(0, true), AssocStream.SEND_FULL);
        x.loseNext(1, 1);
        x.setPath(0, false);
        x.run(1, 0);
        Check.due("id 1 is acked, id 0 is not", !x.isAcked(0) && x.isAcked(1), true);
        Check.due("so the window is full", x.send(0, true), AssocStream.SEND_FULL);
        AssocStream y = Check.established(8);
        Check.sendMany(y, 16, 0, true);
        y.run(1, Check.LOST);
        y.run(1, 0);
        Check.sendMany(y, 2, 0, true);
        y.loseNext(0, 2);
        y.run(1, 0);
        y.loseNext(1, 1);
        for (int id = 18; id < 32; id++) {
            Check.due("send behind unacked 16 and 17", y.send(0, true), id);
        }
        Check.due("full at 32", y.send(0, true), AssocStream.SEND_FULL);
        y.run(1, 0);
        Check.due("id 17 is acked, id 16 is not", !y.isAcked(16) && y.isAcked(17), true);
        Check.due("still full at 32", y.send(0, true), AssocStream.SEND_FULL);
        y.run(1, 0);
        Check.due("free at 32", y.send(0, true), 32);
    }

    private static void streamBeforeLimit() {
        for (int stream : NO_STREAMS) {
            int got = Situations.limitDelivered().send(stream, false);
            Check.due("bad stream " + stream + " at the limit", got, AssocStream.SEND_BAD_STREAM);
        }
    }

    private static void streamBeforeFull() {
        for (int stream : NO_STREAMS) {
            int got = Situations.closedFull().send(stream, true);
            Check.due("bad stream " + stream + " at a full window", got, AssocStream.SEND_BAD_STREAM);
        }
    }

    private static void limitBeforeFull() {
        AssocStream x = Situations.limitOutstanding();
        Check.due("outstanding", x.counter(AssocStream.C_OUTSTANDING), 16);
        Check.due("at the limit with a full window", x.send(0, false), AssocStream.SEND_LIMIT);
    }

    private static void badStreamChangesNothing() {
        Situations.all().forEach((name, make) -> Check.changesNothing("bad streams, " + name, make, x -> {
            for (int stream : NO_STREAMS) {
                x.send(stream, stream % 2 == 0);
            }
        }));
    }

    private static void limitChangesNothing() {
        Check.changesNothing("limit, outstanding", Situations::limitOutstanding, x -> Check.sendMany(x, 5, 3, false));
        Check.changesNothing("limit, delivered", Situations::limitDelivered, x -> Check.sendMany(x, 5, 3, false));
        AssocStream x = Situations.limitDelivered();
        Check.sendMany(x, 5, 0, false);
        Check.due("transmissions(128)", x.transmissions(128), -1);
    }

    private static void fullChangesNothing() {
        Check.changesNothing("full, closed", Situations::closedFull, x -> Check.sendMany(x, 5, 3, false));
        Check.changesNothing("full, one outstanding", Situations::windowFull, x -> Check.sendMany(x, 5, 4, false));
        Check.changesNothing("full, unordered", Situations::windowFull, x -> Check.sendMany(x, 5, 4, true));
    }

    private static void refusedTakesNoRank() {
        AssocStream x = Check.established(1);
        Check.sendMany(x, 16, 0, false);
        Check.due("refused", x.send(0, false), AssocStream.SEND_FULL);
        x.run(1, 0);
        x.send(0, false);
        Check.due("the message after a refused one is delivered", x.run(1, 0), 1);
    }

    private static void ranks() {
        AssocStream x = Check.established(1);
        x.send(0, false);
        x.send(0, true);
        x.send(1, false);
        x.send(0, false);
        x.send(1, true);
        x.send(0, false);
        x.run(1, Check.REVERSE);
        Check.checkLog("ordered by rank, unordered at once", x, "4 2 1 0 3 5");
        AssocStream y = Check.established(1);
        for (int id = 0; id < 16; id++) {
            y.send(0, id % 3 != 0);
        }
        Check.due("unordered ones between take no rank", y.run(1, 0), 16);
    }

    private static void countsAndAnswers() {
        AssocStream x = Check.established(1);
        for (int id = 0; id < 128; id++) {
            int outstanding = x.counter(AssocStream.C_OUTSTANDING);
            Check.due("answer", x.send(id % 8, id % 2 == 0), id);
            Check.due("submitted", x.counter(AssocStream.C_SUBMITTED), id + 1);
            Check.due("outstanding", x.counter(AssocStream.C_OUTSTANDING), outstanding + 1);
            if (id % 7 == 6) {
                x.run(1, 0);
            }
        }
    }

    private static void acceptedInEveryState() {
        Check.due("CLOSED", Situations.made().send(0, false), 0);
        Check.due("CLOSED after an ABORT", Situations.aborted().send(0, false), 1);
        Check.due("COOKIE_WAIT", Situations.cookieWait().send(0, true), 1);
        Check.due("COOKIE_ECHOED", Situations.cookieEchoed(2).send(0, false), 1);
        Check.due("ESTABLISHED", Check.established(1).send(0, true), 0);
        Check.due("with both paths inactive", Situations.bothInactive().send(0, false), 1);
    }

    private static void waits() {
        AssocStream x = Situations.made();
        x.send(0, false);
        x.run(5, 0);
        Check.due("transmissions when CLOSED", x.transmissions(0), 0);
        x.connect();
        x.send(0, false);
        Check.due("no delivery in the INIT round", x.run(1, 0), 0);
        x.send(0, false);
        Check.due("no delivery in the echo round", x.run(1, 0), 0);
        for (int id = 0; id < 3; id++) {
            Check.due("transmissions before the first ESTABLISHED round", x.transmissions(id), 0);
        }
        Check.due("the first ESTABLISHED round", x.run(1, 0), 3);
        Check.checkLog("in order", x, "0 1 2");
    }

    private static void nothingElseChanges() {
        Situations.all().forEach((name, make) -> {
            AssocStream x = make.get();
            AssocStream left = make.get();
            int id = x.send(0, false);
            if (id >= 0) {
                Check.due("messages, " + name, Check.messages(x), Check.messages(left) + " 0u");
                String[] counters = Check.counters(left).split(" ");
                counters[1] = String.valueOf(id + 1);
                counters[2] = String.valueOf(left.counter(AssocStream.C_OUTSTANDING) + 1);
                Check.due("counters, " + name, Check.counters(x), String.join(" ", counters));
                Check.due("paths, " + name, Check.paths(x), Check.paths(left));
                Check.due("state, " + name, x.clientState(), left.clientState());
                Check.due("server tag, " + name, x.serverTag(), left.serverTag());
                Check.checkLog(name, x, Check.log(left));
            }
        });
    }
}

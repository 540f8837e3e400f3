/** Promise 3. */
final class SendTest {
    public static void main(String[] args) {
        refusesBadStreams();
        acceptsInEveryState();
        windowSpansFromTheOldestUnacked();
        limitsMessagesOverLife();
        checksInOrder();
        ranksOrderedMessagesAlone();
        refusedCallsTakeNoRank();
        Check.finish();
    }

    private static void refusesBadStreams() {
        AssocStream x = new AssocStream(1, 1, 1, 1);
        String before = Check.picture(x);
        for (int stream : new int[] {Check.MIN, -2, -1, 8, 9, Check.MAX}) {
            Check.due("send on stream " + stream, x.send(stream, false), AssocStream.SEND_BAD_STREAM);
            Check.due("send on stream " + stream, x.send(stream, true), AssocStream.SEND_BAD_STREAM);
        }
        Check.due("refused sends change nothing", Check.picture(x), before);
        Check.due("send on stream 0", x.send(0, false), 0);
        Check.due("send on stream 7", x.send(7, true), 1);
    }

    private static void acceptsInEveryState() {
        AssocStream x = new AssocStream(1, 1, 1, 1);
        Check.due("send when CLOSED", x.send(0, false), 0);
        x.connect();
        Check.due("send in COOKIE_WAIT", x.send(0, false), 1);
        x.run(1, 0);
        Check.due("send in COOKIE_ECHOED", x.send(1, true), 2);
        x.run(1, 0);
        Check.due("send when ESTABLISHED", x.send(0, false), 3);
        Check.due("sends change messages alone", Check.picture(x),
            "state 3 tag 1 primary 0 path 0+ path 0+ counters 2 4 4 0 0 0 0 0 0 messages 0u 0u 0u 0u log ");
        Check.due("the round that carries them", x.run(1, 0), 4);
    }

    private static void windowSpansFromTheOldestUnacked() {
        AssocStream x = Check.established(8);
        for (int i = 0; i < 16; i++) {
            Check.due("send within the window", x.send(i % 8, i % 3 == 0), i);
        }
        String before = Check.picture(x);
        Check.due("send 17 with none acked", x.send(0, false), AssocStream.SEND_FULL);
        Check.due("a full window changes nothing", Check.picture(x), before);
        x.loseNext(0, 1);
        x.setPath(1, false);
        x.run(1, 0);
        Check.due("outstanding", x.counter(AssocStream.C_OUTSTANDING), 1);
        Check.due("send while id 0 alone is unacked", x.send(0, false), AssocStream.SEND_FULL);
        x.setPath(1, true);
        x.run(1, 0);
        Check.due("send when all are acked", x.send(0, false), 16);

        AssocStream y = Check.established(8);
        y.send(0, true);
        y.run(1, 0);
        for (int i = 1; i <= 16; i++) {
            Check.due("the span starts at the oldest unacked, id 1", y.send(0, true), i);
        }
        Check.due("one past that span", y.send(0, true), AssocStream.SEND_FULL);
    }

    private static void limitsMessagesOverLife() {
        AssocStream x = Check.established(1);
        sendUpTo(x, 127);
        Check.due("the last message of all", x.send(0, false), 127);
        Check.due("one more", x.send(0, false), AssocStream.SEND_LIMIT);
        x.run(1, 0);
        Check.due("one more when all are acked", x.send(0, true), AssocStream.SEND_LIMIT);
        Check.due("submitted", x.counter(AssocStream.C_SUBMITTED), 128);
        Check.due("delivered", x.counter(AssocStream.C_DELIVERED), 128);
        Check.due("the last delivered", x.deliveredAt(127), 127);
    }

    private static void checksInOrder() {
        AssocStream x = Check.established(1);
        sendUpTo(x, 112);
        x.run(1, 0);
        for (int id = 112; id < 128; id++) {
            Check.due("send into the last window", x.send(0, true), id);
        }
        Check.due("limit goes before a full window", x.send(0, false), AssocStream.SEND_LIMIT);
        Check.due("a bad stream goes before the limit", x.send(8, false), AssocStream.SEND_BAD_STREAM);
        AssocStream y = new AssocStream(1, 1, 1, 1);
        for (int id = 0; id < 16; id++) {
            y.send(0, true);
        }
        Check.due("a bad stream goes before a full window", y.send(-1, false), AssocStream.SEND_BAD_STREAM);
    }

    private static void sendUpTo(AssocStream x, int count) {
        for (int id = 0; id < count; id++) {
            Check.due("send", x.send(id % 8, id % 5 == 0), id);
            if (id % 16 == 15) {
                x.run(1, 0);
            }
        }
    }

    private static void ranksOrderedMessagesAlone() {
        AssocStream x = Check.established(1);
        x.send(0, false);
        x.send(0, true);
        x.send(1, false);
        x.send(0, false);
        Check.due("an unordered message takes no rank", x.run(1, 0), 4);
        Check.due("log", Check.log(x), "0 1 2 3");
    }

    private static void refusedCallsTakeNoRank() {
        AssocStream x = Check.established(1);
        for (int i = 0; i < 16; i++) {
            x.send(0, false);
        }
        x.send(0, false);
        x.run(1, 0);
        x.send(0, false);
        Check.due("the message after a refused one is delivered", x.run(1, 0), 1);
    }
}

/** Promises 13 to 15: deliveredAt, transmissions, isAcked. */
final class MessageGettersTest {
    /** Some would be inside if only their low bits were looked at. */
    private static final int[] FAR_OUT = {Check.MIN, Check.MIN + 1, -65536, -256, -128, -2, -1, 128, 129, 255, 256, 257,
        65536, Check.MAX - 1, Check.MAX};

    public static void main(String[] args) {
        Check.sentence("deliveredAt(index) answers the id at position index (0 = first) of the delivery log",
            MessageGettersTest::deliveredAt);
        Check.sentence("deliveredAt: or -1 if index is outside 0..C_DELIVERED-1", MessageGettersTest::deliveredAtOutside);
        Check.sentence("deliveredAt: so always -1 while the log is empty", MessageGettersTest::deliveredAtWhileEmpty);
        Check.sentence("deliveredAt: the last place of a full log", MessageGettersTest::deliveredAtWhenFull);
        Check.sentence("deliveredAt: It changes nothing.", MessageGettersTest::deliveredAtChangesNothing);
        Check.sentence("transmissions(id) answers TX of message id", MessageGettersTest::transmissions);
        Check.sentence("transmissions: or -1 if id is outside 0..C_SUBMITTED-1.", MessageGettersTest::transmissionsOutside);
        Check.sentence("transmissions: -1 at every id while there is no message", MessageGettersTest::transmissionsWhileEmpty);
        Check.sentence("transmissions: the last of 128 messages", MessageGettersTest::transmissionsWhenFull);
        Check.sentence("transmissions: It changes nothing.", MessageGettersTest::transmissionsChangesNothing);
        Check.sentence("isAcked(id) answers ACKED of message id", MessageGettersTest::isAcked);
        Check.sentence("isAcked: or false if id is outside 0..C_SUBMITTED-1.", MessageGettersTest::isAckedOutside);
        Check.sentence("isAcked: the last of 128 messages", MessageGettersTest::isAckedWhenFull);
        Check.sentence("isAcked: It changes nothing.", MessageGettersTest::isAckedChangesNothing);
        Check.finish();
    }

    private static void deliveredAt() {
        AssocStream x = Situations.held();
        Check.due("deliveredAt(0)", x.deliveredAt(0), 3);
        Check.due("deliveredAt(1)", x.deliveredAt(1), 4);
        Check.due("deliveredAt(2)", x.deliveredAt(2), 5);
        x.run(1, 0);
        Check.due("deliveredAt(2) stays", x.deliveredAt(2), 5);
        Check.due("deliveredAt(3)", x.deliveredAt(3), 0);
        Check.due("deliveredAt(5)", x.deliveredAt(5), 2);
    }

    private static void deliveredAtOutside() {
        Situations.all().forEach((name, make) -> {
            AssocStream x = make.get();
            int length = x.counter(AssocStream.C_DELIVERED);
            for (int index : FAR_OUT) {
                Check.due("deliveredAt(" + index + "), " + name, x.deliveredAt(index), -1);
            }
            for (int index = length; index < 130; index++) {
                Check.due("deliveredAt(" + index + "), " + name, x.deliveredAt(index), -1);
            }
        });
    }

    private static void deliveredAtWhileEmpty() {
        AssocStream x = Situations.windowFull();
        Check.due("sixteen messages, fifteen of them received", x.counter(AssocStream.C_HELD), 15);
        for (int index = -1; index < 130; index++) {
            Check.due("deliveredAt(" + index + ")", x.deliveredAt(index), -1);
        }
    }

    private static void deliveredAtWhenFull() {
        AssocStream x = Situations.limitDelivered();
        Check.due("deliveredAt(127)", x.deliveredAt(127), 127);
        Check.due("deliveredAt(128)", x.deliveredAt(128), -1);
        Check.due("deliveredAt(0)", x.deliveredAt(0), 0);
        Check.due("deliveredAt(-1)", x.deliveredAt(-1), -1);
    }

    private static void deliveredAtChangesNothing() {
        Situations.all().forEach((name, make) -> Check.changesNothing("deliveredAt, " + name, make, x -> {
            for (int index = -2; index < 130; index++) {
                x.deliveredAt(index);
            }
        }));
    }

    private static void transmissions() {
        AssocStream x = Check.established(8);
        Check.sendMany(x, 2, 0, false);
        Check.due("before any round", x.transmissions(0), 0);
        x.loseNext(0, 1);
        x.run(1, 0);
        Check.due("one try", x.transmissions(0), 1);
        x.run(1, 0);
        Check.due("two tries", x.transmissions(0), 2);
        Check.due("acked at once", x.transmissions(1), 1);
    }

    private static void transmissionsOutside() {
        Situations.all().forEach((name, make) -> {
            AssocStream x = make.get();
            for (int id : FAR_OUT) {
                Check.due("transmissions(" + id + "), " + name, x.transmissions(id), -1);
            }
            for (int id = x.counter(AssocStream.C_SUBMITTED); id < 130; id++) {
                Check.due("transmissions(" + id + "), " + name, x.transmissions(id), -1);
            }
        });
    }

    private static void transmissionsWhileEmpty() {
        AssocStream x = Check.established(1);
        for (int id = -1; id < 130; id++) {
            Check.due("transmissions(" + id + ")", x.transmissions(id), -1);
        }
        x.send(0, true);
        Check.due("transmissions(0) after a send", x.transmissions(0), 0);
        Check.due("transmissions(1) after a send", x.transmissions(1), -1);
    }

    private static void transmissionsWhenFull() {
        AssocStream x = Situations.limitOutstanding();
        Check.due("transmissions(127)", x.transmissions(127), 0);
        x.run(1, 0);
        Check.due("transmissions(127)", x.transmissions(127), 1);
        Check.due("transmissions(128)", x.transmissions(128), -1);
    }

    private static void transmissionsChangesNothing() {
        Situations.all().forEach((name, make) -> Check.changesNothing("transmissions, " + name, make, x -> {
            for (int id = -2; id < 130; id++) {
                x.transmissions(id);
            }
        }));
    }

    private static void isAcked() {
        AssocStream x = Situations.held();
        Check.due("the lost one", x.isAcked(0), false);
        Check.due("a held one", x.isAcked(1), true);
        Check.due("a delivered one", x.isAcked(5), true);
        x.run(1, Check.LOST);
        Check.due("delivered, reply lost", x.isAcked(0), false);
        x.run(1, 0);
        Check.due("answered", x.isAcked(0), true);
    }

    private static void isAckedOutside() {
        Situations.all().forEach((name, make) -> {
            AssocStream x = make.get();
            for (int id : FAR_OUT) {
                Check.due("isAcked(" + id + "), " + name, x.isAcked(id), false);
            }
            for (int id = x.counter(AssocStream.C_SUBMITTED); id < 130; id++) {
                Check.due("isAcked(" + id + "), " + name, x.isAcked(id), false);
            }
        });
    }

    private static void isAckedWhenFull() {
        AssocStream x = Situations.limitOutstanding();
        Check.due("isAcked(111)", x.isAcked(111), true);
        Check.due("isAcked(127)", x.isAcked(127), false);
        x.run(1, 0);
        Check.due("isAcked(127)", x.isAcked(127), true);
        Check.due("isAcked(128)", x.isAcked(128), false);
    }

    private static void isAckedChangesNothing() {
        Situations.all().forEach((name, make) -> Check.changesNothing("isAcked, " + name, make, x -> {
            for (int id = -2; id < 130; id++) {
                x.isAcked(id);
            }
        }));
    }
}

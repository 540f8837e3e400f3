/** Promises 13 to 15: deliveredAt, transmissions, isAcked. */
final class MessageGettersTest {
    private static final int[] FAR_OUT = {Check.MIN, -2, -1, 127, 128, 129, Check.MAX};

    public static void main(String[] args) {
        emptyObject();
        ordinaryAnswers();
        fullObject();
        Check.finish();
    }

    private static void emptyObject() {
        AssocStream x = new AssocStream(4660, 2, 1, 7);
        checkOutside(x, FAR_OUT);
        checkOutside(x, new int[] {0, 1});
    }

    private static void checkOutside(AssocStream x, int[] places) {
        String before = Check.picture(x);
        for (int place : places) {
            Check.due("deliveredAt(" + place + ")", x.deliveredAt(place), -1);
            Check.due("transmissions(" + place + ")", x.transmissions(place), -1);
            Check.due("isAcked(" + place + ")", x.isAcked(place), false);
        }
        Check.due("asking outside changes nothing", Check.picture(x), before);
    }

    private static void ordinaryAnswers() {
        AssocStream x = Check.established(8);
        x.send(0, false);
        Check.due("transmissions before any round", x.transmissions(0), 0);
        x.send(0, false);
        x.send(1, true);
        x.loseNext(0, 1);
        x.run(1, 0);
        Check.due("deliveredAt(0)", x.deliveredAt(0), 2);
        Check.due("deliveredAt just past the log", x.deliveredAt(1), -1);
        Check.due("isAcked of the lost one", x.isAcked(0), false);
        Check.due("isAcked of the held one", x.isAcked(1), true);
        Check.due("isAcked of the delivered one", x.isAcked(2), true);
        x.run(1, 0);
        Check.due("transmissions(0)", x.transmissions(0), 2);
        Check.due("transmissions(1)", x.transmissions(1), 1);
        Check.due("deliveredAt(1)", x.deliveredAt(1), 0);
        Check.due("deliveredAt(2)", x.deliveredAt(2), 1);
        checkOutside(x, FAR_OUT);
        checkOutside(x, new int[] {3, 4});
    }

    private static void fullObject() {
        AssocStream x = Check.established(8);
        for (int id = 0; id < 128; id++) {
            x.send(0, false);
            x.run(1, 0);
        }
        Check.due("deliveredAt(127)", x.deliveredAt(127), 127);
        Check.due("transmissions(127)", x.transmissions(127), 1);
        Check.due("isAcked(127)", x.isAcked(127), true);
        checkOutside(x, new int[] {Check.MIN, -1, 128, 129, Check.MAX});
    }
}

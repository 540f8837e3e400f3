/** Promise 1. */
final class ConstructionTest {
    private static final int[] ALL_BELOW = {Check.MIN, -1, 0, 1};

    public static void main(String[] args) {
        startsAsStated();
        clampsKey();
        clampsLife();
        clampsThreshold();
        clampsTag();
        Check.finish();
    }

    private static void startsAsStated() {
        AssocStream x = new AssocStream(4660, 2, 1, 7);
        Check.due("a new object", Check.picture(x),
            "state 0 tag 0 primary 0 path 0+ path 0+ counters 0 0 0 0 0 0 0 0 0 messages log ");
        Check.due("deliveredAt(0) on a new object", x.deliveredAt(0), -1);
        x.connect();
        x.run(2, 0);
        for (int s = 0; s < AssocStream.STREAMS; s++) {
            Check.due("first id of stream " + s, x.send(s, false), s);
        }
        Check.due("nothing is lost at first, every EXPECT is 0", x.run(1, 0), 8);
        AssocStream y = Check.established(1);
        y.loseNext(0, 1);
        y.send(0, false);
        y.run(1, 0);
        Check.due("path 1 passes and loses nothing at first", y.run(1, 0), 1);
    }

    private static void clampsKey() {
        for (int key : ALL_BELOW) {
            checkKey(key, 1);
        }
        checkKey(2, 2);
        checkKey(4660, 4660);
        checkKey(65534, 65534);
        for (int key : new int[] {65535, 65536, 100000, Check.MAX}) {
            checkKey(key, 65535);
        }
    }

    private static void checkKey(int given, int kept) {
        AssocStream x = new AssocStream(given, 1, 1, 1);
        Check.due("echo under key " + given, x.injectEcho(9, 0, Check.mac(kept, 9, 0)), AssocStream.ECHO_NEW);
    }

    private static void clampsLife() {
        for (int life : ALL_BELOW) {
            checkLife(life, 1);
        }
        checkLife(2, 2);
        checkLife(15, 15);
        for (int life : new int[] {16, 17, 100, Check.MAX}) {
            checkLife(life, 16);
        }
    }

    private static void checkLife(int given, int kept) {
        AssocStream x = new AssocStream(5, given, 1, 1);
        int mac = Check.mac(5, 9, 0);
        x.run(kept, 0);
        Check.due("echo at the end of life " + given, x.injectEcho(9, 0, mac), AssocStream.ECHO_NEW);
        x.run(1, 0);
        Check.due("echo past life " + given, x.injectEcho(9, 0, mac), AssocStream.ECHO_STALE);
    }

    private static void clampsThreshold() {
        for (int threshold : ALL_BELOW) {
            checkThreshold(threshold, 1);
        }
        checkThreshold(2, 2);
        checkThreshold(7, 7);
        for (int threshold : new int[] {8, 9, 100, Check.MAX}) {
            checkThreshold(threshold, 8);
        }
    }

    private static void checkThreshold(int given, int kept) {
        AssocStream x = new AssocStream(5, 1, given, 1);
        x.setPath(0, false);
        x.connect();
        x.run(kept, 0);
        Check.due("pathActive at threshold " + given, x.pathActive(0), true);
        x.run(1, 0);
        Check.due("pathActive past threshold " + given, x.pathActive(0), false);
    }

    private static void clampsTag() {
        for (int tag : ALL_BELOW) {
            checkTag(tag, 1);
        }
        checkTag(2, 2);
        checkTag(254, 254);
        for (int tag : new int[] {255, 256, 1000, Check.MAX}) {
            checkTag(tag, 255);
        }
    }

    private static void checkTag(int given, int kept) {
        AssocStream x = new AssocStream(5, 1, 1, given);
        x.connect();
        x.run(2, 0);
        Check.due("serverTag for tag " + given, x.serverTag(), kept);
    }
}

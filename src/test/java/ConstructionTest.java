/** Promise 1. */
final class ConstructionTest {
    private static final int[] BELOW = {Check.MIN, Check.MIN + 1, -65536, -256, -2, -1, 0};

    public static void main(String[] args) {
        Check.sentence("below the least it becomes the least: key", ConstructionTest::keyBelow);
        Check.sentence("above the greatest it becomes the greatest: key", ConstructionTest::keyAbove);
        Check.sentence("key: 1..65535, gives KEY.", ConstructionTest::keyWithin);
        Check.sentence("below the least it becomes the least: cookieLife", ConstructionTest::lifeBelow);
        Check.sentence("above the greatest it becomes the greatest: cookieLife", ConstructionTest::lifeAbove);
        Check.sentence("cookieLife: 1..16, gives LIFE.", ConstructionTest::lifeWithin);
        Check.sentence("below the least it becomes the least: threshold", ConstructionTest::thresholdBelow);
        Check.sentence("above the greatest it becomes the greatest: threshold", ConstructionTest::thresholdAbove);
        Check.sentence("threshold: 1..8, gives THRESHOLD.", ConstructionTest::thresholdWithin);
        Check.sentence("below the least it becomes the least: tag", ConstructionTest::tagBelow);
        Check.sentence("above the greatest it becomes the greatest: tag", ConstructionTest::tagAbove);
        Check.sentence("tag: 1..255, gives TAG, the client's association tag.", ConstructionTest::tagWithin);
        Check.sentence("for every int value including Integer.MIN_VALUE and Integer.MAX_VALUE",
            ConstructionTest::allExtremeAtOnce);
        Check.sentence("NOW 0", ConstructionTest::nowIsZero);
        Check.sentence("no messages", ConstructionTest::noMessages);
        Check.sentence("delivery log empty", ConstructionTest::logIsEmpty);
        Check.sentence("EXPECT[s] = 0 for every stream", ConstructionTest::everyExpectIsZero);
        Check.sentence("UP true, LOSE 0 on both paths: path 0", ConstructionTest::pathZeroPassesAll);
        Check.sentence("UP true, LOSE 0 on both paths: path 1", ConstructionTest::pathOnePassesAll);
        Check.sentence("ACTIVE true and ERRORS 0 on both paths; PRIMARY 0", ConstructionTest::pathsAreActive);
        Check.sentence("STATE CLOSED; SERVER TAG 0", ConstructionTest::bothEndsAreIdle);
        Check.sentence("all counters 0.", ConstructionTest::countersAreZero);
        Check.sentence("Every other state starts as stated, whatever other objects went through",
            ConstructionTest::objectsAreApart);
        Check.finish();
    }

    private static void keyBelow() {
        for (int key : BELOW) {
            checkKey(key, 1);
        }
    }

    private static void keyAbove() {
        for (int key : new int[] {65536, 65537, 100000, 1 << 24, Check.MAX - 1, Check.MAX}) {
            checkKey(key, 65535);
        }
    }

    private static void keyWithin() {
        for (int key : new int[] {1, 2, 3, 255, 256, 4660, 32767, 32768, 65534, 65535}) {
            checkKey(key, key);
        }
    }

    private static void checkKey(int given, int kept) {
        for (int tag : new int[] {1, 9, 255}) {
            AssocStream x = new AssocStream(given, 1, 1, 1);
            int right = Check.mac(kept, tag, 0);
            for (int other : new int[] {kept - 1, kept + 1, given}) {
                int mac = Check.mac(other, tag, 0);
                if (other != kept && mac != right) {
                    Check.due("key " + given + ", echo under key " + other, x.injectEcho(tag, 0, mac), AssocStream.ECHO_FORGED);
                }
            }
            Check.due("key " + given + ", echo under key " + kept, x.injectEcho(tag, 0, right), AssocStream.ECHO_NEW);
        }
    }

    private static void lifeBelow() {
        for (int life : BELOW) {
            checkLife(life, 1);
        }
    }

    private static void lifeAbove() {
        for (int life : new int[] {17, 18, 32, 256, 65536, Check.MAX - 1, Check.MAX}) {
            checkLife(life, 16);
        }
    }

    private static void lifeWithin() {
        for (int life = 1; life <= 16; life++) {
            checkLife(life, life);
        }
    }

    private static void checkLife(int given, int kept) {
        AssocStream x = new AssocStream(Check.KEY, given, 1, 1);
        x.run(kept, 0);
        Check.due("echo at the end of life " + given, Check.echo(x, 9, 0), AssocStream.ECHO_NEW);
        x.run(1, 0);
        Check.due("echo past life " + given, Check.echo(x, 9, 0), AssocStream.ECHO_STALE);
    }

    private static void thresholdBelow() {
        for (int threshold : BELOW) {
            checkThreshold(threshold, 1);
        }
    }

    private static void thresholdAbove() {
        for (int threshold : new int[] {9, 10, 16, 256, 65536, Check.MAX - 1, Check.MAX}) {
            checkThreshold(threshold, 8);
        }
    }

    private static void thresholdWithin() {
        for (int threshold = 1; threshold <= 8; threshold++) {
            checkThreshold(threshold, threshold);
        }
    }

    private static void checkThreshold(int given, int kept) {
        AssocStream x = new AssocStream(Check.KEY, 1, given, 1);
        x.setPath(0, false);
        x.connect();
        x.run(kept, 0);
        Check.due("pathActive at threshold " + given, x.pathActive(0), true);
        x.run(1, 0);
        Check.due("pathActive past threshold " + given, x.pathActive(0), false);
    }

    private static void tagBelow() {
        for (int tag : BELOW) {
            checkTag(tag, 1);
        }
    }

    private static void tagAbove() {
        for (int tag : new int[] {256, 257, 511, 512, 65536, Check.MAX - 1, Check.MAX}) {
            checkTag(tag, 255);
        }
    }

    private static void tagWithin() {
        for (int tag = 1; tag <= 255; tag++) {
            checkTag(tag, tag);
        }
    }

    private static void checkTag(int given, int kept) {
        AssocStream x = new AssocStream(Check.KEY, 1, 1, given);
        x.connect();
        x.run(2, 0);
        Check.due("serverTag for tag " + given, x.serverTag(), kept);
    }

    private static void allExtremeAtOnce() {
        checkAll(new AssocStream(Check.MIN, Check.MIN, Check.MIN, Check.MIN), 1, 1, 1, 1);
        checkAll(new AssocStream(Check.MAX, Check.MAX, Check.MAX, Check.MAX), 65535, 16, 8, 255);
        checkAll(new AssocStream(Check.MIN, Check.MAX, Check.MIN, Check.MAX), 1, 16, 1, 255);
        checkAll(new AssocStream(Check.MAX, Check.MIN, Check.MAX, Check.MIN), 65535, 1, 8, 1);
    }

    private static void checkAll(AssocStream x, int key, int life, int threshold, int tag) {
        x.run(life, 0);
        Check.due("key and life", x.injectEcho(tag, 0, Check.mac(key, tag, 0)), AssocStream.ECHO_NEW);
        x.run(1, 0);
        Check.due("past the life", x.injectEcho(tag, 0, Check.mac(key, tag, 0)), AssocStream.ECHO_STALE);
        x.connect();
        x.setPath(0, false);
        x.run(threshold, 0);
        Check.due("at the threshold", x.primaryPath(), 0);
        x.run(1, 0);
        Check.due("past the threshold", x.primaryPath(), 1);
        x.run(2, 0);
        Check.due("the tag is that of the injected echo", x.clientState(), AssocStream.ESTABLISHED);
    }

    private static void nowIsZero() {
        AssocStream x = Situations.made();
        Check.due("NOW", x.counter(AssocStream.C_NOW), 0);
        Check.due("stamp 1 lies ahead", Check.echo(x, 9, 1), AssocStream.ECHO_FORGED);
        Check.due("stamp 0 does not", Check.echo(x, 9, 0), AssocStream.ECHO_NEW);
    }

    private static void noMessages() {
        AssocStream x = Situations.made();
        Check.due("transmissions(0)", x.transmissions(0), -1);
        Check.due("isAcked(0)", x.isAcked(0), false);
        Check.due("submitted", x.counter(AssocStream.C_SUBMITTED), 0);
        x.connect();
        Check.due("nothing to deliver", x.run(16, 0), 0);
        Check.due("the first id", x.send(0, false), 0);
    }

    private static void logIsEmpty() {
        AssocStream x = Situations.made();
        Check.due("delivered", x.counter(AssocStream.C_DELIVERED), 0);
        for (int index = 0; index < 128; index++) {
            Check.due("deliveredAt(" + index + ")", x.deliveredAt(index), -1);
        }
    }

    private static void everyExpectIsZero() {
        for (int stream = 0; stream < 8; stream++) {
            AssocStream x = Check.established(1);
            x.send(stream, false);
            Check.due("the first ordered message of stream " + stream, x.run(1, 0), 1);
        }
    }

    private static void pathZeroPassesAll() {
        AssocStream x = Check.established(8);
        Check.sendMany(x, 16, 0, true);
        Check.due("a window over path 0", x.run(1, 0), 16);
    }

    private static void pathOnePassesAll() {
        AssocStream x = Check.established(8);
        Check.sendMany(x, 16, 0, true);
        x.setPath(0, false);
        Check.due("a window over path 0, which is down", x.run(1, 0), 0);
        Check.due("a window over path 1", x.run(1, 0), 16);
    }

    private static void pathsAreActive() {
        AssocStream x = Situations.made();
        Check.checkErrors("new", x, 0, 0);
        Check.checkActive("new", x, true, true, 0);
    }

    private static void bothEndsAreIdle() {
        AssocStream x = Situations.made();
        Check.due("clientState", x.clientState(), AssocStream.CLOSED);
        Check.due("serverTag", x.serverTag(), 0);
    }

    private static void countersAreZero() {
        Check.due("counters", Check.counters(Situations.made()), "0 0 0 0 0 0 0 0 0");
    }

    private static void objectsAreApart() {
        AssocStream early = Situations.made();
        String before = Check.picture(early);
        Situations.all().values().forEach(make -> make.get());
        Check.due("an object made before others were used", Check.picture(early), before);
        Check.due("an object made after others were used", Check.picture(Situations.made()), before);
        Check.sameFuture("the earlier and the later one", early, Situations.made());
    }
}

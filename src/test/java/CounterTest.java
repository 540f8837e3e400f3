/** Promise 16. */
final class CounterTest {
    private static final int KEY = 4660;

    public static void main(String[] args) {
        refusesOtherKinds();
        countsEachKind();
        Check.finish();
    }

    private static void refusesOtherKinds() {
        AssocStream x = Check.established(1);
        String before = Check.picture(x);
        for (int kind : new int[] {Check.MIN, -2, -1, 9, 10, 255, Check.MAX}) {
            Check.due("counter(" + kind + ")", x.counter(kind), -1);
        }
        Check.due("refused kinds change nothing", Check.picture(x), before);
    }

    private static void checkCounters(String when, AssocStream x, String want) {
        StringBuilder got = new StringBuilder();
        for (int kind = 0; kind <= 8; kind++) {
            got.append(kind == 0 ? "" : " ").append(x.counter(kind));
        }
        Check.due(when + ": counters", got.toString(), want);
    }

    private static void countsEachKind() {
        AssocStream x = new AssocStream(KEY, 2, 8, 7);
        checkCounters("start", x, "0 0 0 0 0 0 0 0 0");
        x.injectEcho(9, 0, 1);
        x.injectEcho(9, 0, 2);
        checkCounters("two forged", x, "0 0 0 0 0 0 2 0 0");
        x.run(3, 0);
        x.injectEcho(9, 0, Check.mac(KEY, 9, 0));
        checkCounters("an injected stale one", x, "3 0 0 0 0 0 2 1 0");
        x.connect();
        x.run(1, 0);
        x.setPath(0, false);
        x.run(2, 0);
        x.setPath(0, true);
        x.run(1, 0);
        checkCounters("the client's own stale one", x, "7 0 0 0 0 0 2 2 0");
        x.run(2, 0);
        for (int i = 0; i < 4; i++) {
            x.send(0, false);
        }
        x.send(0, true);
        checkCounters("five submitted", x, "9 5 5 0 0 0 2 2 0");
        x.loseNext(0, 1);
        x.run(1, AssocStream.MODE_DUPLICATE);
        checkCounters("one lost, three held", x, "10 5 1 1 3 4 2 2 0");
        x.run(1, AssocStream.MODE_NO_REPLY);
        checkCounters("all delivered, one not acked", x, "11 5 1 5 0 4 2 2 0");
        x.run(1, 0);
        checkCounters("all acked", x, "12 5 0 5 0 5 2 2 0");

        AssocStream y = new AssocStream(KEY, 2, 8, 7);
        y.injectEcho(9, 0, Check.mac(KEY, 9, 0));
        y.connect();
        y.run(2, 0);
        checkCounters("one abort", y, "2 0 0 0 0 0 0 0 1");
    }
}

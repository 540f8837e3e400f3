import java.util.Map;
import java.util.function.Supplier;

/** That each situation is what its name tells, since other tests lean on it. */
final class SituationsTest {
    private static final Map<String, Supplier<AssocStream>> ALL = Situations.all();

    public static void main(String[] args) {
        check("new", "state 0 tag 0 primary 0 path 0+ path 0+ counters 0 0 0 0 0 0 0 0 0 messages log ");
        check("closed after an abort", "state 0 tag 9 primary 0 path 0+ path 0+ counters 5 1 1 0 0 0 1 1 1 messages 0u log ");
        check("cookie wait", "state 1 tag 0 primary 0 path 0+ path 0+ counters 0 1 1 0 0 0 0 0 0 messages 0u log ");
        check("cookie wait, failed over",
            "state 1 tag 0 primary 1 path 2- path 0+ counters 2 1 1 0 0 0 0 0 0 messages 0u log ");
        check("cookie echoed, cookie at its last round",
            "state 2 tag 0 primary 0 path 1+ path 0+ counters 2 1 1 0 0 0 0 0 0 messages 0u log ");
        check("cookie echoed, cookie too old",
            "state 2 tag 0 primary 0 path 2+ path 0+ counters 3 1 1 0 0 0 0 0 0 messages 0u log ");
        check("cookie accepted, its reply lost, too old",
            "state 2 tag 7 primary 0 path 2+ path 0+ counters 3 0 0 0 0 0 0 0 0 messages log ");
        check("messages held behind a lost one",
            "state 3 tag 7 primary 0 path 0+ path 0+ counters 3 6 1 3 2 5 0 0 0 messages 1u 1a 1a 1a 1a 1a log 3 4 5");
        check("received, but the reply was lost",
            "state 3 tag 7 primary 0 path 1+ path 0+ counters 3 3 3 3 0 0 0 0 0 messages 1u 1u 1u log 0 1 2");
        check("failed over with data outstanding",
            "state 3 tag 7 primary 1 path 2- path 0+ counters 4 2 1 1 0 0 0 0 0 messages 2a 1u log 0");
        check("both paths inactive",
            "state 3 tag 7 primary 0 path 13- path 15- counters 18 1 1 0 0 0 0 0 0 messages 16u log ");
        AssocStream full = ALL.get("window full for the oldest message alone").get();
        Check.due("outstanding", full.counter(AssocStream.C_OUTSTANDING), 1);
        Check.due("held", full.counter(AssocStream.C_HELD), 15);
        Check.due("outstanding at the limit",
            ALL.get("limit reached, last window outstanding").get().counter(AssocStream.C_OUTSTANDING), 16);
        Check.due("delivered at the limit",
            ALL.get("limit reached, all delivered").get().counter(AssocStream.C_DELIVERED), 128);
        ALL.forEach((name, make) -> {
            checkUp(name, make.get(), 0);
            checkUp(name, make.get(), 1);
        });
        Check.finish();
    }

    private static void check(String name, String picture) {
        Check.due(name, Check.picture(ALL.get(name).get()), picture);
    }

    /** A heartbeat tells whether a path passes; losses by MODE_NO_REPLY first make the path inactive. */
    private static void checkUp(String name, AssocStream x, int path) {
        if (x.clientState() == AssocStream.CLOSED) {
            x.connect();
        }
        x.loseNext(0, 255);
        x.loseNext(1, 255);
        for (int round = 0; round < 60 && x.pathActive(path); round++) {
            x.send(0, true);
            x.run(1, Check.LOST);
        }
        if (!x.pathActive(path)) {
            x.run(1, 0);
            Check.due("path " + path + " passes, " + name, x.pathActive(path), Situations.isUp(name, path));
        }
    }
}

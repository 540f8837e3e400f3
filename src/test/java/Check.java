import java.util.function.Consumer;
import java.util.function.Supplier;

/** What the tests share: comparing answers, ready-made objects, and a picture of all that is answered. */
final class Check {
    static final int MIN = Integer.MIN_VALUE;
    static final int MAX = Integer.MAX_VALUE;
    static final int LOST = AssocStream.MODE_NO_REPLY;
    static final int REVERSE = AssocStream.MODE_REVERSE;
    static final int TWICE = AssocStream.MODE_DUPLICATE;
    static final int KEY = 4660;
    /** Some would be a path if only their low bits or their size were looked at. */
    static final int[] NO_PATHS = {MIN, MIN + 1, -65536, -256, -2, -1, 2, 3, 4, 128, 256, 257, 65536, MAX - 1, MAX};

    private static final int MOST_TOLD = 5;

    private static int made = 0;
    private static int wrong = 0;
    private static int told = 0;

    private Check() {
    }

    static void due(String what, long got, long want) {
        made++;
        if (got != want) {
            tellWrong(what + " answered " + got + ", due is " + want);
        }
    }

    static void due(String what, boolean got, boolean want) {
        due(what, got ? 1 : 0, want ? 1 : 0);
    }

    static void due(String what, String got, String want) {
        made++;
        if (!got.equals(want)) {
            tellWrong(what + " gave\n  " + got + "\ndue is\n  " + want);
        }
    }

    /** One fault can make many answers wrong: each sentence's test tells the first few. */
    private static void tellWrong(String words) {
        wrong++;
        told++;
        if (told <= MOST_TOLD) {
            System.out.println(words);
        }
    }

    /** Runs the test that one sentence of the document has of its own, and tells if the sentence is broken. */
    static void sentence(String words, Runnable test) {
        int madeBefore = made;
        int wrongBefore = wrong;
        told = 0;
        try {
            test.run();
        } catch (RuntimeException fault) {
            tellWrong("a call threw " + fault);
        }
        due("this test made checks", made > madeBefore, true);
        if (wrong > wrongBefore) {
            System.out.println("BROKEN: " + words);
        }
    }

    static boolean anyWrong() {
        return wrong != 0;
    }

    static void finish() {
        System.out.println(made + " checks, " + wrong + " wrong");
        if (wrong != 0 || made == 0) {
            System.exit(1);
        }
    }

    /** A client of tag 7 that has been through the handshake, at round 2. */
    static AssocStream established(int threshold) {
        AssocStream x = new AssocStream(KEY, 2, threshold, 7);
        x.connect();
        x.run(2, 0);
        due("established: clientState", x.clientState(), AssocStream.ESTABLISHED);
        return x;
    }

    static void sendMany(AssocStream x, int count, int stream, boolean unordered) {
        for (int i = 0; i < count; i++) {
            x.send(stream, unordered);
        }
    }

    static void setBoth(AssocStream x, boolean up) {
        x.setPath(0, up);
        x.setPath(1, up);
    }

    /** An echo from outside whose check is right under KEY. */
    static int echo(AssocStream x, int tag, int stamp) {
        return x.injectEcho(tag, stamp, mac(KEY, tag, stamp));
    }

    /** The cookie check, reckoned in long arithmetic so that it leans on no int overflow. */
    static int mac(int key, int tag, int stamp) {
        long word = 0xFFFFFFFFL;
        long h = key;
        h = (h * 16777619L & word) ^ (tag & word);
        h = (h * 16777619L & word) ^ (stamp & word);
        return (int) ((h ^ h / 65536) % 65536);
    }

    static void checkErrors(String when, AssocStream x, int first, int second) {
        due(when + ": errors of path 0", x.pathErrors(0), first);
        due(when + ": errors of path 1", x.pathErrors(1), second);
    }

    static void checkActive(String when, AssocStream x, boolean first, boolean second, int primary) {
        due(when + ": path 0 active", x.pathActive(0), first);
        due(when + ": path 1 active", x.pathActive(1), second);
        due(when + ": primary", x.primaryPath(), primary);
    }

    static void checkLog(String when, AssocStream x, String ids) {
        due(when + ": log", log(x), ids);
    }

    static String log(AssocStream x) {
        StringBuilder ids = new StringBuilder();
        for (int i = 0; i < x.counter(AssocStream.C_DELIVERED); i++) {
            ids.append(i == 0 ? "" : " ").append(x.deliveredAt(i));
        }
        return ids.toString();
    }

    static String counters(AssocStream x) {
        StringBuilder all = new StringBuilder();
        for (int kind = 0; kind <= 8; kind++) {
            all.append(kind == 0 ? "" : " ").append(x.counter(kind));
        }
        return all.toString();
    }

    static String paths(AssocStream x) {
        StringBuilder all = new StringBuilder("primary ").append(x.primaryPath());
        for (int p = 0; p < 2; p++) {
            all.append(" path ").append(x.pathErrors(p)).append(x.pathActive(p) ? "+" : "-");
        }
        return all.toString();
    }

    static String messages(AssocStream x) {
        StringBuilder all = new StringBuilder("messages");
        for (int id = 0; id < x.counter(AssocStream.C_SUBMITTED); id++) {
            all.append(' ').append(x.transmissions(id)).append(x.isAcked(id) ? "a" : "u");
        }
        return all.toString();
    }

    /** Everything the object answers, in one line. */
    static String picture(AssocStream x) {
        return "state " + x.clientState() + " tag " + x.serverTag() + " " + paths(x)
            + " counters " + counters(x) + " " + messages(x) + " log " + log(x);
    }

    /** A call that changes nothing leaves the object's picture, and what it does later, as that of one left alone. */
    static void changesNothing(String what, Supplier<AssocStream> make, Consumer<AssocStream> call) {
        AssocStream seen = make.get();
        call.accept(seen);
        due(what, picture(seen), picture(make.get()));
        int now = make.get().counter(AssocStream.C_NOW);
        for (boolean calm : new boolean[] {true, false}) {
            AssocStream unseen = make.get();
            call.accept(unseen);
            AssocStream alone = make.get();
            if (!calm) {
                due(what + ", a foreign echo", disturb(unseen, now), disturb(alone, now));
            }
            sameFuture(what, unseen, alone);
        }
    }

    /** Lets a difference in SERVER TAG and in ERRORS show. */
    private static int disturb(AssocStream x, int now) {
        x.setPath(0, false);
        return echo(x, 9, now);
    }

    /**
     * Plays the same calls on both, so that a difference in what has no getter (UP, LOSE, STAMP, ranks) shows.
     * No getter is asked before the end: one that changes something would change both alike.
     */
    static void sameFuture(String what, AssocStream got, AssocStream want) {
        for (int step = 0; step < 30; step++) {
            due(what + ", step " + step + " later", playStep(got, step), playStep(want, step));
        }
        due(what + ", at the end", picture(got), picture(want));
    }

    private static String playStep(AssocStream x, int step) {
        if (step == 8) {
            x.connect();
        } else if (step == 14) {
            x.setPath(0, false);
        } else if (step == 19) {
            x.setPath(0, true);
            x.setPath(1, false);
        } else if (step == 24) {
            setBoth(x, true);
        }
        int ordered = x.send(step % 8, false);
        int mixed = x.send(step % 3, step % 2 == 0);
        int delivered = x.run(1, step % 5 == 4 ? LOST : step & 3);
        return ordered + " " + mixed + " " + delivered;
    }
}

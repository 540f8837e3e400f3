/** What the tests share: comparing answers, ready-made objects, and a picture of all that is answered. */
final class Check {
    static final int MIN = Integer.MIN_VALUE;
    static final int MAX = Integer.MAX_VALUE;
    static final int LOST = AssocStream.MODE_NO_REPLY;

    private static int made = 0;
    private static int wrong = 0;

    private Check() {
    }

    static void due(String what, long got, long want) {
        made++;
        if (got != want) {
            wrong++;
            System.out.println(what + " answered " + got + ", due is " + want);
        }
    }

    static void due(String what, boolean got, boolean want) {
        due(what, got ? 1 : 0, want ? 1 : 0);
    }

    static void due(String what, String got, String want) {
        made++;
        if (!got.equals(want)) {
            wrong++;
            System.out.println(what + " gave\n  " + got + "\ndue is\n  " + want);
        }
    }

    static boolean anyWrong() {
        return wrong != 0;
    }

    static void finish() {
        System.out.println(made + " checks, " + wrong + " wrong");
        if (wrong != 0 || made == 0) {
            System.exit(1);
        }
    }

    /** A client of tag 7 that has been through the handshake, at round 2. */
    static AssocStream established(int threshold) {
        AssocStream x = new AssocStream(4660, 2, threshold, 7);
        x.connect();
        x.run(2, 0);
        due("established: clientState", x.clientState(), AssocStream.ESTABLISHED);
        return x;
    }

    /** The cookie check, reckoned in long arithmetic so that it leans on no int overflow. */
    static int mac(int key, int tag, int stamp) {
        long word = 0xFFFFFFFFL;
        long h = key;
        h = (h * 16777619L & word) ^ (tag & word);
        h = (h * 16777619L & word) ^ (stamp & word);
        return (int) ((h ^ h / 65536) % 65536);
    }

    static String log(AssocStream x) {
        StringBuilder ids = new StringBuilder();
        for (int i = 0; i < x.counter(AssocStream.C_DELIVERED); i++) {
            ids.append(i == 0 ? "" : " ").append(x.deliveredAt(i));
        }
        return ids.toString();
    }

    /** Everything the object answers, in one line. */
    static String picture(AssocStream x) {
        StringBuilder all = new StringBuilder();
        all.append("state ").append(x.clientState()).append(" tag ").append(x.serverTag());
        all.append(" primary ").append(x.primaryPath());
        for (int p = 0; p < 2; p++) {
            all.append(" path ").append(x.pathErrors(p)).append(x.pathActive(p) ? "+" : "-");
        }
        all.append(" counters");
        for (int kind = 0; kind <= 8; kind++) {
            all.append(' ').append(x.counter(kind));
        }
        all.append(" messages");
        for (int id = 0; id < x.counter(AssocStream.C_SUBMITTED); id++) {
            all.append(' ').append(x.transmissions(id)).append(x.isAcked(id) ? "a" : "u");
        }
        return all.append(" log ").append(log(x)).toString();
    }
}

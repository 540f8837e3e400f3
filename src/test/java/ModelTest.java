/** Promises 1 to 16: long mixed runs of calls, each answer held against Model. */
final class ModelTest {
    private static final int RUNS = 3000;
    private static final int CALLS = 120;
    private static final int[] ODD = {Integer.MIN_VALUE, -2, -1, 0, 1, 2, 8, 9, 16, 17, 255, 256, Integer.MAX_VALUE};

    private static long seed;

    public static void main(String[] args) {
        for (int run = 0; run < RUNS && !Check.anyWrong(); run++) {
            seed = run;
            playRun(run);
        }
        Check.finish();
    }

    /** A fixed sequence of numbers for each run, so that a failure comes again. */
    private static int pick(int bound) {
        seed = seed * 6364136223846793005L + 1442695040888963407L;
        return (int) ((seed >>> 33) % bound);
    }

    private static boolean chance(int percent) {
        return pick(100) < percent;
    }

    private static int mostly(int bound) {
        return chance(4) ? ODD[pick(ODD.length)] : pick(bound);
    }

    private static void playRun(int run) {
        int key = mostly(65536);
        int life = chance(50) ? 1 + pick(3) : mostly(17);
        int threshold = chance(60) ? 1 + pick(2) : mostly(9);
        int tag = chance(50) ? 1 + pick(3) : mostly(256);
        AssocStream x = new AssocStream(key, life, threshold, tag);
        Model model = new Model(key, life, threshold, tag);
        String made = "run " + run + ": new (" + key + ", " + life + ", " + threshold + ", " + tag + ")";
        Check.due(made, Check.picture(x), model.picture());
        // Quiet runs get further: through all 128 messages.
        int trouble = run % 4 == 0 ? 1 : run % 4 == 1 ? 5 : 12;
        for (int call = 0; call < CALLS && !Check.anyWrong(); call++) {
            playCall(x, model, trouble, "run " + run + ", call " + call + ": ");
        }
        if (Check.anyWrong()) {
            System.out.println(made);
        }
    }

    private static void playCall(AssocStream x, Model model, int trouble, String where) {
        int choice = pick(100);
        if (choice < 4) {
            Check.due(where + "connect()", x.connect() ? 1 : 0, model.connect());
        } else if (choice < 8) {
            playEcho(x, model, where);
        } else if (choice < 8 + trouble) {
            int path = mostly(2);
            boolean up = chance(60);
            Check.due(where + "setPath(" + path + ", " + up + ")", x.setPath(path, up) ? 1 : 0, model.setPath(path, up));
        } else if (choice < 8 + 2 * trouble) {
            int path = mostly(2);
            int count = mostly(6);
            Check.due(where + "loseNext(" + path + ", " + count + ")",
                x.loseNext(path, count) ? 1 : 0, model.loseNext(path, count));
        } else if (choice < 60) {
            for (int i = pick(6); i >= 0; i--) {
                int stream = mostly(chance(70) ? 2 : 8);
                boolean unordered = chance(30);
                Check.due(where + "send(" + stream + ", " + unordered + ")",
                    x.send(stream, unordered), model.send(stream, unordered));
            }
        } else {
            int rounds = chance(80) ? 1 + pick(2) : mostly(18);
            int mode = chance(50) ? 0 : chance(50) ? pick(4) : pick(16) - 8;
            Check.due(where + "run(" + rounds + ", " + mode + ")", x.run(rounds, mode), model.run(rounds, mode));
        }
        Check.due(where + "picture after choice " + choice, Check.picture(x), model.picture());
    }

    private static void playEcho(AssocStream x, Model model, String where) {
        int tag = chance(80) ? 1 + pick(3) : mostly(258);
        int stamp = chance(80) ? model.now() - pick(5) : mostly(40);
        int mac = chance(90) ? model.mac(tag, stamp) : mostly(65536);
        // An early accepted foreign tag ends most of the run, so it stays rare.
        if (model.now() < 3 && chance(80)) {
            mac++;
        }
        Check.due(where + "injectEcho(" + tag + ", " + stamp + ", " + mac + ")",
            x.injectEcho(tag, stamp, mac), model.injectEcho(tag, stamp, mac));
    }
}
